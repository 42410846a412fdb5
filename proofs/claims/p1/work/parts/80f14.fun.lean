def f_X12_worstAt_L18_B (n : Nat) (q5 : Int32 → Int32 → Int32 → Int32 → hq_S → Option (Int32 × hq_S)) (q18 : Int32 → Int32 → Int32 → Int32 → Int32 → Int32 → hq_S → Option (Int32 × hq_S)) (a1 : Int32) (a2 : Int32) (a3 : Int32) (a4 : Int32) (a5 : Int32) (a6 : Int32) (s : hq_S) : Option (Int32 × hq_S) := if a6 < (10 : Int32) then (if ((a1 >>> (a6 &&& 31)) &&& (1 : Int32)) = (1 : Int32) then (hq_ld s 230 610 (((61 : Int32) * a6) + a2)).bind fun x7 => (hq_ld s 230 610 (((61 : Int32) * a4) + a2)).bind fun x8 => if x7 = x8 then some (1 : Int32) else some (0 : Int32) else some (0 : Int32)).bind fun z5 => q18 a1 a2 a3 a4 (a5 + z5) (a6 + (1 : Int32)) s else (if ((a1 >>> (a4 &&& 31)) &&& (1 : Int32)) = (1 : Int32) then some (hq_max a3 a5) else some a3).bind fun z3 => q5 a1 a2 z3 (a4 + (1 : Int32)) s
def f_X12_worstAt_L18 (n : Nat) (q5 : Int32 → Int32 → Int32 → Int32 → hq_S → Option (Int32 × hq_S)) (m : Nat) : Int32 → Int32 → Int32 → Int32 → Int32 → Int32 → hq_S → Option (Int32 × hq_S) := Nat.rec (fun _ _ _ _ _ _ _ => none) (fun _ q => f_X12_worstAt_L18_B n q5 q) m
theorem f_X12_worstAt_L18_Brun {xs : List Int32} {n d g : Nat} {a1 : Int32} {a2 : Int32} {a3 : Int32} {a4 : Int32} {a5 : Int32} {a6 : Int32} {q5 : Int32 → Int32 → Int32 → Int32 → hq_S → Option (Int32 × hq_S)} {q18 : Int32 → Int32 → Int32 → Int32 → Int32 → Int32 → hq_S → Option (Int32 × hq_S)} {s : hq_S} {y : (Int32 × hq_S)} (hd : 1 ≤ d) (e5 : ∀ (a1 : Int32) (a2 : Int32) (a3 : Int32) (a4 : Int32) (o5 : Option Value) (o6 : Option Value) (s : hq_S), q5 a1 a2 a3 a4 s = some y → hq_R (mm_O xs) d mc_X12_worstAt 5 [some (.ref 174), some (.int a1), some (.int a2), some (.int a3), some (.int a4), o5, o6] [] s g (some (.int y.1)) y.2) (e18 : ∀ (a1 : Int32) (a2 : Int32) (a3 : Int32) (a4 : Int32) (a5 : Int32) (a6 : Int32) (s : hq_S), q18 a1 a2 a3 a4 a5 a6 s = some y → hq_R (mm_O xs) d mc_X12_worstAt 18 [some (.ref 174), some (.int a1), some (.int a2), some (.int a3), some (.int a4), some (.int a5), some (.int a6)] [] s g (some (.int y.1)) y.2) (h : f_X12_worstAt_L18_B n q5 q18 a1 a2 a3 a4 a5 a6 s = some y) : hq_R (mm_O xs) d mc_X12_worstAt 18 [some (.ref 174), some (.int a1), some (.int a2), some (.int a3), some (.int a4), some (.int a5), some (.int a6)] [] s g (some (.int y.1)) y.2 := by
  unfold f_X12_worstAt_L18_B at h
  refine hq_p 2 22 [some (.ref 174), some (.int a1), some (.int a2), some (.int a3), some (.int a4), some (.int a5), some (.int a6)] [.int (10 : Int32), .int a6] (fun n h => rfl) ?_
  by_cases c2 : a6 < (10 : Int32)
  · rw [if_pos c2] at h
    refine hq_icF rfl (hq_c_ge_F c2) ?_
    refine hq_p 7 34 [some (.ref 174), some (.int a1), some (.int a2), some (.int a3), some (.int a4), some (.int a5), some (.int a6)] [.int (1 : Int32), .int ((a1 >>> (a6 &&& 31)) &&& (1 : Int32)), .int a5] (fun n h => rfl) ?_
    obtain ⟨z5, hz5, h⟩ := hq_bind h
    suffices hT : hq_R (mm_O xs) d mc_X12_worstAt 69 [some (.ref 174), some (.int a1), some (.int a2), some (.int a3), some (.int a4), some (.int a5), some (.int a6)] [.int z5, .int a5] s g (some (.int y.1)) y.2 from by
      clear h
      have h := hz5
      by_cases c6 : ((a1 >>> (a6 &&& 31)) &&& (1 : Int32)) = (1 : Int32)
      · rw [if_pos c6] at h
        refine hq_icF rfl (hq_c_ne_F c6) ?_
        refine hq_p 1 38 [some (.ref 174), some (.int a1), some (.int a2), some (.int a3), some (.int a4), some (.int a5), some (.int a6)] [.ref 174, .int a5] (fun n h => rfl) ?_
        refine hq_gf (x := .ref 230) rfl rfl rfl rfl rfl ?_
        refine hq_bip (61 : Int32) rfl (by decide) ?_
        refine hq_p 4 48 [some (.ref 174), some (.int a1), some (.int a2), some (.int a3), some (.int a4), some (.int a5), some (.int a6)] [.int (((61 : Int32) * a6) + a2), .ref 230, .int a5] (fun n h => rfl) ?_
        obtain ⟨x7, hx7, h⟩ := hq_bind h
        refine hq_iaload rfl rfl List.length_replicate hx7 ?_
        refine hq_p 1 50 [some (.ref 174), some (.int a1), some (.int a2), some (.int a3), some (.int a4), some (.int a5), some (.int a6)] [.ref 174, .int x7, .int a5] (fun n h => rfl) ?_
        refine hq_gf (x := .ref 230) rfl rfl rfl rfl rfl ?_
        refine hq_bip (61 : Int32) rfl (by decide) ?_
        refine hq_p 4 60 [some (.ref 174), some (.int a1), some (.int a2), some (.int a3), some (.int a4), some (.int a5), some (.int a6)] [.int (((61 : Int32) * a4) + a2), .ref 230, .int x7, .int a5] (fun n h => rfl) ?_
        obtain ⟨x8, hx8, h⟩ := hq_bind h
        refine hq_iaload rfl rfl List.length_replicate hx8 ?_
        by_cases c9 : x7 = x8
        · rw [if_pos c9] at h
          refine hq_icF rfl (hq_c_ne_F c9) ?_
          refine hq_p 2 69 [some (.ref 174), some (.int a1), some (.int a2), some (.int a3), some (.int a4), some (.int a5), some (.int a6)] [.int (1 : Int32), .int a5] (fun n h => rfl) ?_
          cases h
          exact hT
        · rw [if_neg c9] at h
          refine hq_icT rfl (hq_c_ne_T c9) ?_
          refine hq_p 1 69 [some (.ref 174), some (.int a1), some (.int a2), some (.int a3), some (.int a4), some (.int a5), some (.int a6)] [.int (0 : Int32), .int a5] (fun n h => rfl) ?_
          cases h
          exact hT
      · rw [if_neg c6] at h
        refine hq_icT rfl (hq_c_ne_T c6) ?_
        refine hq_p 1 69 [some (.ref 174), some (.int a1), some (.int a2), some (.int a3), some (.int a4), some (.int a5), some (.int a6)] [.int (0 : Int32), .int a5] (fun n h => rfl) ?_
        cases h
        exact hT
    refine hq_p 4 18 [some (.ref 174), some (.int a1), some (.int a2), some (.int a3), some (.int a4), some (.int (a5 + z5)), some (.int (a6 + (1 : Int32)))] [] (fun n h => rfl) ?_
    exact e18 a1 a2 a3 a4 (a5 + z5) (a6 + (1 : Int32)) s h
  · rw [if_neg c2] at h
    refine hq_icT rfl (hq_c_ge_T c2) ?_
    refine hq_p 6 85 [some (.ref 174), some (.int a1), some (.int a2), some (.int a3), some (.int a4), some (.int a5), some (.int a6)] [.int (1 : Int32), .int ((a1 >>> (a4 &&& 31)) &&& (1 : Int32))] (fun n h => rfl) ?_
    obtain ⟨z3, hz3, h⟩ := hq_bind h
    suffices hT : hq_R (mm_O xs) d mc_X12_worstAt 95 [some (.ref 174), some (.int a1), some (.int a2), some (.int z3), some (.int a4), some (.int a5), some (.int a6)] [] s g (some (.int y.1)) y.2 from by
      clear h
      have h := hz3
      by_cases c4 : ((a1 >>> (a4 &&& 31)) &&& (1 : Int32)) = (1 : Int32)
      · rw [if_pos c4] at h
        refine hq_icF rfl (hq_c_ne_F c4) ?_
        refine hq_p 2 91 [some (.ref 174), some (.int a1), some (.int a2), some (.int a3), some (.int a4), some (.int a5), some (.int a6)] [.int a5, .int a3] (fun n h => rfl) ?_
        refine hq_math rfl rfl rfl (Nat.le_trans (by decide) hd) ?_
        refine hq_p 1 95 [some (.ref 174), some (.int a1), some (.int a2), some (.int (hq_max a3 a5)), some (.int a4), some (.int a5), some (.int a6)] [] (fun n h => rfl) ?_
        cases h
        exact hT
      · rw [if_neg c4] at h
        refine hq_icT rfl (hq_c_ne_T c4) ?_
        cases h
        exact hT
    refine hq_p 2 5 [some (.ref 174), some (.int a1), some (.int a2), some (.int z3), some (.int (a4 + (1 : Int32))), some (.int a5), some (.int a6)] [] (fun n h => rfl) ?_
    exact e5 a1 a2 z3 (a4 + (1 : Int32)) _ _ s h
theorem f_X12_worstAt_L18_run {xs : List Int32} {n m d g : Nat} {a1 : Int32} {a2 : Int32} {a3 : Int32} {a4 : Int32} {a5 : Int32} {a6 : Int32} {q5 : Int32 → Int32 → Int32 → Int32 → hq_S → Option (Int32 × hq_S)} {s : hq_S} {y : (Int32 × hq_S)} (hd : 1 ≤ d) (e5 : ∀ (a1 : Int32) (a2 : Int32) (a3 : Int32) (a4 : Int32) (o5 : Option Value) (o6 : Option Value) (s : hq_S), q5 a1 a2 a3 a4 s = some y → hq_R (mm_O xs) d mc_X12_worstAt 5 [some (.ref 174), some (.int a1), some (.int a2), some (.int a3), some (.int a4), o5, o6] [] s g (some (.int y.1)) y.2) (h : f_X12_worstAt_L18 n q5 m a1 a2 a3 a4 a5 a6 s = some y) : hq_R (mm_O xs) d mc_X12_worstAt 18 [some (.ref 174), some (.int a1), some (.int a2), some (.int a3), some (.int a4), some (.int a5), some (.int a6)] [] s g (some (.int y.1)) y.2 := by
  induction m generalizing a1 a2 a3 a4 a5 a6 s with
  | zero => cases h
  | succ m ih => exact f_X12_worstAt_L18_Brun (n := n) hd e5 (fun a1 a2 a3 a4 a5 a6 s h => ih h) h
def f_X12_worstAt_L5_B (n : Nat) (q5 : Int32 → Int32 → Int32 → Int32 → hq_S → Option (Int32 × hq_S)) (a1 : Int32) (a2 : Int32) (a3 : Int32) (a4 : Int32) (s : hq_S) : Option (Int32 × hq_S) := if a4 < (10 : Int32) then f_X12_worstAt_L18 n q5 n a1 a2 a3 a4 (0 : Int32) (0 : Int32) s else some (a3, s)
def f_X12_worstAt_L5 (n : Nat) (m : Nat) : Int32 → Int32 → Int32 → Int32 → hq_S → Option (Int32 × hq_S) := Nat.rec (fun _ _ _ _ _ => none) (fun _ q => f_X12_worstAt_L5_B n q) m
theorem f_X12_worstAt_L5_Brun {xs : List Int32} {n d g : Nat} {a1 : Int32} {a2 : Int32} {a3 : Int32} {a4 : Int32} {o5 : Option Value} {o6 : Option Value} {q5 : Int32 → Int32 → Int32 → Int32 → hq_S → Option (Int32 × hq_S)} {s : hq_S} {y : (Int32 × hq_S)} (hd : 1 ≤ d) (e5 : ∀ (a1 : Int32) (a2 : Int32) (a3 : Int32) (a4 : Int32) (o5 : Option Value) (o6 : Option Value) (s : hq_S), q5 a1 a2 a3 a4 s = some y → hq_R (mm_O xs) d mc_X12_worstAt 5 [some (.ref 174), some (.int a1), some (.int a2), some (.int a3), some (.int a4), o5, o6] [] s g (some (.int y.1)) y.2) (h : f_X12_worstAt_L5_B n q5 a1 a2 a3 a4 s = some y) : hq_R (mm_O xs) d mc_X12_worstAt 5 [some (.ref 174), some (.int a1), some (.int a2), some (.int a3), some (.int a4), o5, o6] [] s g (some (.int y.1)) y.2 := by
  unfold f_X12_worstAt_L5_B at h
  refine hq_p 2 9 [some (.ref 174), some (.int a1), some (.int a2), some (.int a3), some (.int a4), o5, o6] [.int (10 : Int32), .int a4] (fun n h => rfl) ?_
  by_cases c1 : a4 < (10 : Int32)
  · rw [if_pos c1] at h
    refine hq_icF rfl (hq_c_ge_F c1) ?_
    refine hq_p 4 18 [some (.ref 174), some (.int a1), some (.int a2), some (.int a3), some (.int a4), some (.int (0 : Int32)), some (.int (0 : Int32))] [] (fun n h => rfl) ?_
    exact f_X12_worstAt_L18_run hd e5 h
  · rw [if_neg c1] at h
    refine hq_icT rfl (hq_c_ge_T c1) ?_
    refine hq_p 1 102 [some (.ref 174), some (.int a1), some (.int a2), some (.int a3), some (.int a4), o5, o6] [.int a3] (fun n h => rfl) ?_
    have h := Option.some.inj h
    subst h
    exact ⟨1, rfl⟩
theorem f_X12_worstAt_L5_run {xs : List Int32} {n m d g : Nat} {a1 : Int32} {a2 : Int32} {a3 : Int32} {a4 : Int32} {o5 : Option Value} {o6 : Option Value} {s : hq_S} {y : (Int32 × hq_S)} (hd : 1 ≤ d) (h : f_X12_worstAt_L5 n m a1 a2 a3 a4 s = some y) : hq_R (mm_O xs) d mc_X12_worstAt 5 [some (.ref 174), some (.int a1), some (.int a2), some (.int a3), some (.int a4), o5, o6] [] s g (some (.int y.1)) y.2 := by
  induction m generalizing a1 a2 a3 a4 o5 o6 s with
  | zero => cases h
  | succ m ih => exact f_X12_worstAt_L5_Brun (n := n) hd (fun a1 a2 a3 a4 o5 o6 s h => ih h) h
def f_X12_worstAt (n : Nat) (a1 : Int32) (a2 : Int32) (s : hq_S) : Option (Int32 × hq_S) := f_X12_worstAt_L5 n n a1 a2 (0 : Int32) (0 : Int32) s
theorem f_X12_worstAt_run {xs : List Int32} {n d g : Nat} {a1 : Int32} {a2 : Int32} {s : hq_S} {y : (Int32 × hq_S)} (hd : 1 ≤ d) (h : f_X12_worstAt n a1 a2 s = some y) : hq_R (mm_O xs) d mc_X12_worstAt 0 [some (.ref 174), some (.int a1), some (.int a2), none, none, none, none] [] s g (some (.int y.1)) y.2 := by
  unfold f_X12_worstAt at h
  refine hq_p 4 5 [some (.ref 174), some (.int a1), some (.int a2), some (.int (0 : Int32)), some (.int (0 : Int32)), none, none] [] (fun n h => rfl) ?_
  exact f_X12_worstAt_L5_run hd h
def f_X12_ask_L116_B (n : Nat) (q116 : Int32 → Int32 → Int32 → Int32 → Int32 → hq_S → Option (Int32 × hq_S)) (a1 : Int32) (a2 : Int32) (a3 : Int32) (a4 : Int32) (a5 : Int32) (s : hq_S) : Option (Int32 × hq_S) := if (60 : Int32) < a5 then if a2 = 0 then some (a4, s) else (f_X12_worstAt n a3 a4 s).bind fun y12 => some (y12.1, y12.2) else (f_X12_worstAt n a3 a5 s).bind fun y13 => (f_X12_worstAt n a3 a4 y13.2).bind fun y14 => (if y13.1 < y14.1 then some a5 else some a4).bind fun z15 => q116 a1 a2 a3 z15 (a5 + (1 : Int32)) y14.2
def f_X12_ask_L116 (n : Nat) (m : Nat) : Int32 → Int32 → Int32 → Int32 → Int32 → hq_S → Option (Int32 × hq_S) := Nat.rec (fun _ _ _ _ _ _ => none) (fun _ q => f_X12_ask_L116_B n q) m
theorem f_X12_ask_L116_Brun {xs : List Int32} {n d g : Nat} {a1 : Int32} {a2 : Int32} {a3 : Int32} {a4 : Int32} {a5 : Int32} {q116 : Int32 → Int32 → Int32 → Int32 → Int32 → hq_S → Option (Int32 × hq_S)} {s : hq_S} {y : (Int32 × hq_S)} (hd : 8 ≤ d) (e116 : ∀ (a1 : Int32) (a2 : Int32) (a3 : Int32) (a4 : Int32) (a5 : Int32) (s : hq_S), q116 a1 a2 a3 a4 a5 s = some y → hq_R (mm_O xs) d mc_X12_ask 116 [some (.ref 174), some (.int a1), some (.int a2), some (.int a3), some (.int a4), some (.int a5)] [] s g (some (.int y.1)) y.2) (h : f_X12_ask_L116_B n q116 a1 a2 a3 a4 a5 s = some y) : hq_R (mm_O xs) d mc_X12_ask 116 [some (.ref 174), some (.int a1), some (.int a2), some (.int a3), some (.int a4), some (.int a5)] [] s g (some (.int y.1)) y.2 := by
  unfold f_X12_ask_L116_B at h
  refine hq_p 1 118 [some (.ref 174), some (.int a1), some (.int a2), some (.int a3), some (.int a4), some (.int a5)] [.int a5] (fun n h => rfl) ?_
  refine hq_bip (60 : Int32) rfl (by decide) ?_
  by_cases c10 : (60 : Int32) < a5
  · rw [if_pos c10] at h
    refine hq_icT rfl (hq_c_gt_T c10) ?_
    refine hq_p 1 151 [some (.ref 174), some (.int a1), some (.int a2), some (.int a3), some (.int a4), some (.int a5)] [.int a2] (fun n h => rfl) ?_
    by_cases c11 : a2 = 0
    · rw [if_pos c11] at h
      refine hq_izF rfl (hq_c_ne_F c11) ?_
      refine hq_p 2 166 [some (.ref 174), some (.int a1), some (.int a2), some (.int a3), some (.int a4), some (.int a5)] [.int a4] (fun n h => rfl) ?_
      have h := Option.some.inj h
      subst h
      exact ⟨1, rfl⟩
    · rw [if_neg c11] at h
      refine hq_izT rfl (hq_c_ne_T c11) ?_
      refine hq_p 3 163 [some (.ref 174), some (.int a1), some (.int a2), some (.int a3), some (.int a4), some (.int a5)] [.int a4, .int a3, .ref 174] (fun n h => rfl) ?_
      obtain ⟨y12, hy12, h⟩ := hq_bind h
      refine hq_inv rfl rfl (Nat.le_trans (by decide) hd) rfl rfl (hq_rcv rfl rfl) (f_X12_worstAt_run (Nat.le_sub_of_add_le (Nat.le_trans (by decide) hd)) hy12) rfl ?_
      have h := Option.some.inj h
      subst h
      exact ⟨1, rfl⟩
  · rw [if_neg c10] at h
    refine hq_icF rfl (hq_c_gt_F c10) ?_
    refine hq_p 3 127 [some (.ref 174), some (.int a1), some (.int a2), some (.int a3), some (.int a4), some (.int a5)] [.int a5, .int a3, .ref 174] (fun n h => rfl) ?_
    obtain ⟨y13, hy13, h⟩ := hq_bind h
    refine hq_inv rfl rfl (Nat.le_trans (by decide) hd) rfl rfl (hq_rcv rfl rfl) (f_X12_worstAt_run (Nat.le_sub_of_add_le (Nat.le_trans (by decide) hd)) hy13) rfl ?_
    refine hq_p 3 134 [some (.ref 174), some (.int a1), some (.int a2), some (.int a3), some (.int a4), some (.int a5)] [.int a4, .int a3, .ref 174, .int y13.1] (fun n h => rfl) ?_
    obtain ⟨y14, hy14, h⟩ := hq_bind h
    refine hq_inv rfl rfl (Nat.le_trans (by decide) hd) rfl rfl (hq_rcv rfl rfl) (f_X12_worstAt_run (Nat.le_sub_of_add_le (Nat.le_trans (by decide) hd)) hy14) rfl ?_
    obtain ⟨z15, hz15, h⟩ := hq_bind h
    suffices hT : hq_R (mm_O xs) d mc_X12_ask 144 [some (.ref 174), some (.int a1), some (.int a2), some (.int a3), some (.int z15), some (.int a5)] [] y14.2 g (some (.int y.1)) y.2 from by
      clear h
      have h := hz15
      by_cases c16 : y13.1 < y14.1
      · rw [if_pos c16] at h
        refine hq_icF rfl (hq_c_ge_F c16) ?_
        refine hq_p 2 144 [some (.ref 174), some (.int a1), some (.int a2), some (.int a3), some (.int a5), some (.int a5)] [] (fun n h => rfl) ?_
        cases h
        exact hT
      · rw [if_neg c16] at h
        refine hq_icT rfl (hq_c_ge_T c16) ?_
        cases h
        exact hT
    refine hq_p 2 116 [some (.ref 174), some (.int a1), some (.int a2), some (.int a3), some (.int z15), some (.int (a5 + (1 : Int32)))] [] (fun n h => rfl) ?_
    exact e116 a1 a2 a3 z15 (a5 + (1 : Int32)) y14.2 h
theorem f_X12_ask_L116_run {xs : List Int32} {n m d g : Nat} {a1 : Int32} {a2 : Int32} {a3 : Int32} {a4 : Int32} {a5 : Int32} {s : hq_S} {y : (Int32 × hq_S)} (hd : 8 ≤ d) (h : f_X12_ask_L116 n m a1 a2 a3 a4 a5 s = some y) : hq_R (mm_O xs) d mc_X12_ask 116 [some (.ref 174), some (.int a1), some (.int a2), some (.int a3), some (.int a4), some (.int a5)] [] s g (some (.int y.1)) y.2 := by
  induction m generalizing a1 a2 a3 a4 a5 s with
  | zero => cases h
  | succ m ih => exact f_X12_ask_L116_Brun (n := n) hd (fun a1 a2 a3 a4 a5 s h => ih h) h
def f_X12_ask_L59_B (n : Nat) (q38 : Int32 → Int32 → Int32 → Int32 → hq_S → Option (Int32 × hq_S)) (q59 : Int32 → Int32 → Int32 → Int32 → Int32 → hq_S → Option (Int32 × hq_S)) (a1 : Int32) (a2 : Int32) (a3 : Int32) (a4 : Int32) (a5 : Int32) (s : hq_S) : Option (Int32 × hq_S) := if (60 : Int32) < a5 then q38 a1 a2 a3 (a4 + (1 : Int32)) s else (f_X12_passes n (1 : Int32) (0 : Int32) s).bind fun s20 => (hq_ld s20 204 92 ((4 : Int32) + a1)).bind fun x21 => (hq_st s20 230 610 (((61 : Int32) * a4) + a5) x21).bind fun s22 => q59 a1 a2 a3 a4 (a5 + (1 : Int32)) s22
def f_X12_ask_L59 (n : Nat) (q38 : Int32 → Int32 → Int32 → Int32 → hq_S → Option (Int32 × hq_S)) (m : Nat) : Int32 → Int32 → Int32 → Int32 → Int32 → hq_S → Option (Int32 × hq_S) := Nat.rec (fun _ _ _ _ _ _ => none) (fun _ q => f_X12_ask_L59_B n q38 q) m
theorem f_X12_ask_L59_Brun {xs : List Int32} {n d g : Nat} {a1 : Int32} {a2 : Int32} {a3 : Int32} {a4 : Int32} {a5 : Int32} {q38 : Int32 → Int32 → Int32 → Int32 → hq_S → Option (Int32 × hq_S)} {q59 : Int32 → Int32 → Int32 → Int32 → Int32 → hq_S → Option (Int32 × hq_S)} {s : hq_S} {y : (Int32 × hq_S)} (hd : 8 ≤ d) (e38 : ∀ (a1 : Int32) (a2 : Int32) (a3 : Int32) (a4 : Int32) (o5 : Option Value) (s : hq_S), q38 a1 a2 a3 a4 s = some y → hq_R (mm_O xs) d mc_X12_ask 38 [some (.ref 174), some (.int a1), some (.int a2), some (.int a3), some (.int a4), o5] [] s g (some (.int y.1)) y.2) (e59 : ∀ (a1 : Int32) (a2 : Int32) (a3 : Int32) (a4 : Int32) (a5 : Int32) (s : hq_S), q59 a1 a2 a3 a4 a5 s = some y → hq_R (mm_O xs) d mc_X12_ask 59 [some (.ref 174), some (.int a1), some (.int a2), some (.int a3), some (.int a4), some (.int a5)] [] s g (some (.int y.1)) y.2) (h : f_X12_ask_L59_B n q38 q59 a1 a2 a3 a4 a5 s = some y) : hq_R (mm_O xs) d mc_X12_ask 59 [some (.ref 174), some (.int a1), some (.int a2), some (.int a3), some (.int a4), some (.int a5)] [] s g (some (.int y.1)) y.2 := by
  unfold f_X12_ask_L59_B at h
  refine hq_p 1 61 [some (.ref 174), some (.int a1), some (.int a2), some (.int a3), some (.int a4), some (.int a5)] [.int a5] (fun n h => rfl) ?_
  refine hq_bip (60 : Int32) rfl (by decide) ?_
  by_cases c19 : (60 : Int32) < a5
  · rw [if_pos c19] at h
    refine hq_icT rfl (hq_c_gt_T c19) ?_
    refine hq_p 2 38 [some (.ref 174), some (.int a1), some (.int a2), some (.int a3), some (.int (a4 + (1 : Int32))), some (.int a5)] [] (fun n h => rfl) ?_
    exact e38 a1 a2 a3 (a4 + (1 : Int32)) _ s h
  · rw [if_neg c19] at h
    refine hq_icF rfl (hq_c_gt_F c19) ?_
    refine hq_p 3 69 [some (.ref 174), some (.int a1), some (.int a2), some (.int a3), some (.int a4), some (.int a5)] [.int (0 : Int32), .int (1 : Int32), .ref 174] (fun n h => rfl) ?_
    obtain ⟨s20, hs20, h⟩ := hq_bind h
    refine hq_inv rfl rfl (Nat.le_trans (by decide) hd) rfl rfl (hq_rcv rfl rfl) (f_X12_passes_run (Nat.le_sub_of_add_le (Nat.le_trans (by decide) hd)) hs20) rfl ?_
    refine hq_p 1 73 [some (.ref 174), some (.int a1), some (.int a2), some (.int a3), some (.int a4), some (.int a5)] [.ref 174] (fun n h => rfl) ?_
    refine hq_gf (x := .ref 230) rfl rfl rfl rfl rfl ?_
    refine hq_bip (61 : Int32) rfl (by decide) ?_
    refine hq_p 5 85 [some (.ref 174), some (.int a1), some (.int a2), some (.int a3), some (.int a4), some (.int a5)] [.ref 174, .int (((61 : Int32) * a4) + a5), .ref 230] (fun n h => rfl) ?_
    refine hq_gf (x := .ref 204) rfl rfl rfl rfl rfl ?_
    refine hq_p 3 91 [some (.ref 174), some (.int a1), some (.int a2), some (.int a3), some (.int a4), some (.int a5)] [.int ((4 : Int32) + a1), .ref 204, .int (((61 : Int32) * a4) + a5), .ref 230] (fun n h => rfl) ?_
    obtain ⟨x21, hx21, h⟩ := hq_bind h
    refine hq_iaload rfl rfl List.length_replicate hx21 ?_
    obtain ⟨s22, hs22, h⟩ := hq_bind h
    refine hq_iastore rfl rfl List.length_replicate hs22 ?_
    refine hq_p 2 59 [some (.ref 174), some (.int a1), some (.int a2), some (.int a3), some (.int a4), some (.int (a5 + (1 : Int32)))] [] (fun n h => rfl) ?_
    exact e59 a1 a2 a3 a4 (a5 + (1 : Int32)) s22 h
theorem f_X12_ask_L59_run {xs : List Int32} {n m d g : Nat} {a1 : Int32} {a2 : Int32} {a3 : Int32} {a4 : Int32} {a5 : Int32} {q38 : Int32 → Int32 → Int32 → Int32 → hq_S → Option (Int32 × hq_S)} {s : hq_S} {y : (Int32 × hq_S)} (hd : 8 ≤ d) (e38 : ∀ (a1 : Int32) (a2 : Int32) (a3 : Int32) (a4 : Int32) (o5 : Option Value) (s : hq_S), q38 a1 a2 a3 a4 s = some y → hq_R (mm_O xs) d mc_X12_ask 38 [some (.ref 174), some (.int a1), some (.int a2), some (.int a3), some (.int a4), o5] [] s g (some (.int y.1)) y.2) (h : f_X12_ask_L59 n q38 m a1 a2 a3 a4 a5 s = some y) : hq_R (mm_O xs) d mc_X12_ask 59 [some (.ref 174), some (.int a1), some (.int a2), some (.int a3), some (.int a4), some (.int a5)] [] s g (some (.int y.1)) y.2 := by
  induction m generalizing a1 a2 a3 a4 a5 s with
  | zero => cases h
  | succ m ih => exact f_X12_ask_L59_Brun (n := n) hd e38 (fun a1 a2 a3 a4 a5 s h => ih h) h
def f_X12_ask_L38_B (n : Nat) (q38 : Int32 → Int32 → Int32 → Int32 → hq_S → Option (Int32 × hq_S)) (a1 : Int32) (a2 : Int32) (a3 : Int32) (a4 : Int32) (s : hq_S) : Option (Int32 × hq_S) := if a4 < (10 : Int32) then (hq_pi s 174 54 0 a4).bind fun s17 => (f_X12_starts n (1 : Int32) s17).bind fun s18 => f_X12_ask_L59 n q38 n a1 a2 a3 a4 (1 : Int32) s18 else (hq_pi s 174 53 0 (-1 : Int32)).bind fun s9 => f_X12_ask_L116 n n a1 a2 a3 (1 : Int32) (2 : Int32) s9
def f_X12_ask_L38 (n : Nat) (m : Nat) : Int32 → Int32 → Int32 → Int32 → hq_S → Option (Int32 × hq_S) := Nat.rec (fun _ _ _ _ _ => none) (fun _ q => f_X12_ask_L38_B n q) m
theorem f_X12_ask_L38_Brun {xs : List Int32} {n d g : Nat} {a1 : Int32} {a2 : Int32} {a3 : Int32} {a4 : Int32} {o5 : Option Value} {q38 : Int32 → Int32 → Int32 → Int32 → hq_S → Option (Int32 × hq_S)} {s : hq_S} {y : (Int32 × hq_S)} (hd : 8 ≤ d) (e38 : ∀ (a1 : Int32) (a2 : Int32) (a3 : Int32) (a4 : Int32) (o5 : Option Value) (s : hq_S), q38 a1 a2 a3 a4 s = some y → hq_R (mm_O xs) d mc_X12_ask 38 [some (.ref 174), some (.int a1), some (.int a2), some (.int a3), some (.int a4), o5] [] s g (some (.int y.1)) y.2) (h : f_X12_ask_L38_B n q38 a1 a2 a3 a4 s = some y) : hq_R (mm_O xs) d mc_X12_ask 38 [some (.ref 174), some (.int a1), some (.int a2), some (.int a3), some (.int a4), o5] [] s g (some (.int y.1)) y.2 := by
  unfold f_X12_ask_L38_B at h
  refine hq_p 2 42 [some (.ref 174), some (.int a1), some (.int a2), some (.int a3), some (.int a4), o5] [.int (10 : Int32), .int a4] (fun n h => rfl) ?_
  by_cases c8 : a4 < (10 : Int32)
  · rw [if_pos c8] at h
    refine hq_icF rfl (hq_c_ge_F c8) ?_
    refine hq_p 2 48 [some (.ref 174), some (.int a1), some (.int a2), some (.int a3), some (.int a4), o5] [.int a4, .ref 174] (fun n h => rfl) ?_
    obtain ⟨s17, hs17, h⟩ := hq_bind h
    refine hq_pfi rfl rfl rfl rfl rfl hs17 ?_
    refine hq_p 2 53 [some (.ref 174), some (.int a1), some (.int a2), some (.int a3), some (.int a4), o5] [.int (1 : Int32), .ref 174] (fun n h => rfl) ?_
    obtain ⟨s18, hs18, h⟩ := hq_bind h
    refine hq_inv rfl rfl (Nat.le_trans (by decide) hd) rfl rfl (hq_rcv rfl rfl) (f_X12_starts_run (Nat.le_sub_of_add_le (Nat.le_trans (by decide) hd)) hs18) rfl ?_
    refine hq_p 2 59 [some (.ref 174), some (.int a1), some (.int a2), some (.int a3), some (.int a4), some (.int (1 : Int32))] [] (fun n h => rfl) ?_
    exact f_X12_ask_L59_run hd e38 h
  · rw [if_neg c8] at h
    refine hq_icT rfl (hq_c_ge_T c8) ?_
    refine hq_p 1 106 [some (.ref 174), some (.int a1), some (.int a2), some (.int a3), some (.int a4), o5] [.ref 174] (fun n h => rfl) ?_
    refine hq_icn (-1 : Int32) rfl (by decide) ?_
    obtain ⟨s9, hs9, h⟩ := hq_bind h
    refine hq_pfi rfl rfl rfl rfl rfl hs9 ?_
    refine hq_p 4 116 [some (.ref 174), some (.int a1), some (.int a2), some (.int a3), some (.int (1 : Int32)), some (.int (2 : Int32))] [] (fun n h => rfl) ?_
    exact f_X12_ask_L116_run hd h
theorem f_X12_ask_L38_run {xs : List Int32} {n m d g : Nat} {a1 : Int32} {a2 : Int32} {a3 : Int32} {a4 : Int32} {o5 : Option Value} {s : hq_S} {y : (Int32 × hq_S)} (hd : 8 ≤ d) (h : f_X12_ask_L38 n m a1 a2 a3 a4 s = some y) : hq_R (mm_O xs) d mc_X12_ask 38 [some (.ref 174), some (.int a1), some (.int a2), some (.int a3), some (.int a4), o5] [] s g (some (.int y.1)) y.2 := by
  induction m generalizing a1 a2 a3 a4 o5 s with
  | zero => cases h
  | succ m ih => exact f_X12_ask_L38_Brun (n := n) hd (fun a1 a2 a3 a4 o5 s h => ih h) h
def f_X12_ask (n : Nat) (a1 : Int32) (a2 : Int32) (s : hq_S) : Option (Int32 × hq_S) := (hq_pi s 174 0 0 (0 : Int32)).bind fun s1 => (f_X12_isThief n a1 s1).bind fun y2 => if y2.1 = 0 then some ((-1 : Int32), y2.2) else if a2 < 0 then some ((-1 : Int32), y2.2) else if (1 : Int32) < a2 then some ((-1 : Int32), y2.2) else (f_X12_boldsOf n a1 y2.2).bind fun y6 => (hq_pi y6.2 174 53 0 a1).bind fun s7 => f_X12_ask_L38 n n a1 a2 y6.1 (0 : Int32) s7
theorem f_X12_ask_run {xs : List Int32} {n d g : Nat} {a1 : Int32} {a2 : Int32} {s : hq_S} {y : (Int32 × hq_S)} (hd : 8 ≤ d) (h : f_X12_ask n a1 a2 s = some y) : hq_R (mm_O xs) d mc_X12_ask 0 [some (.ref 174), some (.int a1), some (.int a2), none, none, none] [] s g (some (.int y.1)) y.2 := by
  unfold f_X12_ask at h
  refine hq_p 2 2 [some (.ref 174), some (.int a1), some (.int a2), none, none, none] [.int (0 : Int32), .ref 174] (fun n h => rfl) ?_
  obtain ⟨s1, hs1, h⟩ := hq_bind h
  refine hq_pfi rfl rfl rfl rfl rfl hs1 ?_
  refine hq_p 2 7 [some (.ref 174), some (.int a1), some (.int a2), none, none, none] [.int a1, .ref 174] (fun n h => rfl) ?_
  obtain ⟨y2, hy2, h⟩ := hq_bind h
  refine hq_inv rfl rfl (Nat.le_trans (by decide) hd) rfl rfl (hq_rcv rfl rfl) (f_X12_isThief_run (Nat.le_sub_of_add_le (Nat.le_trans (by decide) hd)) hy2) rfl ?_
  by_cases c3 : y2.1 = 0
  · rw [if_pos c3] at h
    refine hq_izT rfl (hq_c_eq_T c3) ?_
    refine hq_icn (-1 : Int32) rfl (by decide) ?_
    have h := Option.some.inj h
    subst h
    exact ⟨1, rfl⟩
  · rw [if_neg c3] at h
    refine hq_izF rfl (hq_c_eq_F c3) ?_
    refine hq_p 1 14 [some (.ref 174), some (.int a1), some (.int a2), none, none, none] [.int a2] (fun n h => rfl) ?_
    by_cases c4 : a2 < 0
    · rw [if_pos c4] at h
      refine hq_izT rfl (hq_c_lt_T c4) ?_
      refine hq_icn (-1 : Int32) rfl (by decide) ?_
      have h := Option.some.inj h
      subst h
      exact ⟨1, rfl⟩
    · rw [if_neg c4] at h
      refine hq_izF rfl (hq_c_lt_F c4) ?_
      refine hq_p 2 19 [some (.ref 174), some (.int a1), some (.int a2), none, none, none] [.int (1 : Int32), .int a2] (fun n h => rfl) ?_
      by_cases c5 : (1 : Int32) < a2
      · rw [if_pos c5] at h
        refine hq_icF rfl (hq_c_le_F c5) ?_
        refine hq_icn (-1 : Int32) rfl (by decide) ?_
        have h := Option.some.inj h
        subst h
        exact ⟨1, rfl⟩
      · rw [if_neg c5] at h
        refine hq_icT rfl (hq_c_le_T c5) ?_
        refine hq_p 2 26 [some (.ref 174), some (.int a1), some (.int a2), none, none, none] [.int a1, .ref 174] (fun n h => rfl) ?_
        obtain ⟨y6, hy6, h⟩ := hq_bind h
        refine hq_inv rfl rfl (Nat.le_trans (by decide) hd) rfl rfl (hq_rcv rfl rfl) (f_X12_boldsOf_run (Nat.le_sub_of_add_le (Nat.le_trans (by decide) hd)) hy6) rfl ?_
        refine hq_p 3 32 [some (.ref 174), some (.int a1), some (.int a2), some (.int y6.1), none, none] [.int a1, .ref 174] (fun n h => rfl) ?_
        obtain ⟨s7, hs7, h⟩ := hq_bind h
        refine hq_pfi rfl rfl rfl rfl rfl hs7 ?_
        refine hq_p 2 38 [some (.ref 174), some (.int a1), some (.int a2), some (.int y6.1), some (.int (0 : Int32)), none] [] (fun n h => rfl) ?_
        exact f_X12_ask_L38_run hd h
def f_X12_chance_L63_B (n : Nat) (q39 : Int32 → Int32 → Int32 → Int32 → Int32 → Int32 → hq_S → Option (Int32 × hq_S)) (q63 : Int32 → Int32 → Int32 → Int32 → Int32 → Int32 → Int32 → hq_S → Option (Int32 × hq_S)) (a1 : Int32) (a2 : Int32) (a3 : Int32) (a4 : Int32) (a5 : Int32) (a6 : Int32) (a7 : Int32) (s : hq_S) : Option (Int32 × hq_S) := if a7 < a2 then (f_X12_passes n (1 : Int32) (1 : Int32) s).bind fun s15 => q63 a1 a2 a3 a4 a5 a6 (a7 + (1 : Int32)) s15 else (hq_ld s 197 23 (1 : Int32)).bind fun x11 => (f_X12_isFree n (1 : Int32) a3 s).bind fun y12 => (if y12.1 = 0 then some (1 : Int32) else some (0 : Int32)).bind fun z13 => q39 a1 a2 a3 x11 (a5 + z13) (a6 + (1 : Int32)) y12.2
def f_X12_chance_L63 (n : Nat) (q39 : Int32 → Int32 → Int32 → Int32 → Int32 → Int32 → hq_S → Option (Int32 × hq_S)) (m : Nat) : Int32 → Int32 → Int32 → Int32 → Int32 → Int32 → Int32 → hq_S → Option (Int32 × hq_S) := Nat.rec (fun _ _ _ _ _ _ _ _ => none) (fun _ q => f_X12_chance_L63_B n q39 q) m
theorem f_X12_chance_L63_Brun {xs : List Int32} {n d g : Nat} {a1 : Int32} {a2 : Int32} {a3 : Int32} {a4 : Int32} {a5 : Int32} {a6 : Int32} {a7 : Int32} {q39 : Int32 → Int32 → Int32 → Int32 → Int32 → Int32 → hq_S → Option (Int32 × hq_S)} {q63 : Int32 → Int32 → Int32 → Int32 → Int32 → Int32 → Int32 → hq_S → Option (Int32 × hq_S)} {s : hq_S} {y : (Int32 × hq_S)} (hd : 6 ≤ d) (e39 : ∀ (a1 : Int32) (a2 : Int32) (a3 : Int32) (a4 : Int32) (a5 : Int32) (a6 : Int32) (o7 : Option Value) (s : hq_S), q39 a1 a2 a3 a4 a5 a6 s = some y → hq_R (mm_O xs) d mc_X12_chance 39 [some (.ref 174), some (.int a1), some (.int a2), some (.int a3), some (.int a4), some (.int a5), some (.int a6), o7] [] s g (some (.int y.1)) y.2) (e63 : ∀ (a1 : Int32) (a2 : Int32) (a3 : Int32) (a4 : Int32) (a5 : Int32) (a6 : Int32) (a7 : Int32) (s : hq_S), q63 a1 a2 a3 a4 a5 a6 a7 s = some y → hq_R (mm_O xs) d mc_X12_chance 63 [some (.ref 174), some (.int a1), some (.int a2), some (.int a3), some (.int a4), some (.int a5), some (.int a6), some (.int a7)] [] s g (some (.int y.1)) y.2) (h : f_X12_chance_L63_B n q39 q63 a1 a2 a3 a4 a5 a6 a7 s = some y) : hq_R (mm_O xs) d mc_X12_chance 63 [some (.ref 174), some (.int a1), some (.int a2), some (.int a3), some (.int a4), some (.int a5), some (.int a6), some (.int a7)] [] s g (some (.int y.1)) y.2 := by
  unfold f_X12_chance_L63_B at h
  refine hq_p 2 66 [some (.ref 174), some (.int a1), some (.int a2), some (.int a3), some (.int a4), some (.int a5), some (.int a6), some (.int a7)] [.int a2, .int a7] (fun n h => rfl) ?_
  by_cases c10 : a7 < a2
  · rw [if_pos c10] at h
    refine hq_icF rfl (hq_c_ge_F c10) ?_
    refine hq_p 3 72 [some (.ref 174), some (.int a1), some (.int a2), some (.int a3), some (.int a4), some (.int a5), some (.int a6), some (.int a7)] [.int (1 : Int32), .int (1 : Int32), .ref 174] (fun n h => rfl) ?_
    obtain ⟨s15, hs15, h⟩ := hq_bind h
    refine hq_inv rfl rfl (Nat.le_trans (by decide) hd) rfl rfl (hq_rcv rfl rfl) (f_X12_passes_run (Nat.le_sub_of_add_le (Nat.le_trans (by decide) hd)) hs15) rfl ?_
    refine hq_p 2 63 [some (.ref 174), some (.int a1), some (.int a2), some (.int a3), some (.int a4), some (.int a5), some (.int a6), some (.int (a7 + (1 : Int32)))] [] (fun n h => rfl) ?_
    exact e63 a1 a2 a3 a4 a5 a6 (a7 + (1 : Int32)) s15 h
  · rw [if_neg c10] at h
    refine hq_icT rfl (hq_c_ge_T c10) ?_
    refine hq_p 1 82 [some (.ref 174), some (.int a1), some (.int a2), some (.int a3), some (.int a4), some (.int a5), some (.int a6), some (.int a7)] [.ref 174] (fun n h => rfl) ?_
    refine hq_gf (x := .ref 197) rfl rfl rfl rfl rfl ?_
    refine hq_p 1 86 [some (.ref 174), some (.int a1), some (.int a2), some (.int a3), some (.int a4), some (.int a5), some (.int a6), some (.int a7)] [.int (1 : Int32), .ref 197] (fun n h => rfl) ?_
    obtain ⟨x11, hx11, h⟩ := hq_bind h
    refine hq_iaload rfl rfl List.length_replicate hx11 ?_
    refine hq_p 5 94 [some (.ref 174), some (.int a1), some (.int a2), some (.int a3), some (.int x11), some (.int a5), some (.int a6), some (.int a7)] [.int a3, .int (1 : Int32), .ref 174, .int a5] (fun n h => rfl) ?_
    obtain ⟨y12, hy12, h⟩ := hq_bind h
    refine hq_inv rfl rfl (Nat.le_trans (by decide) hd) rfl rfl (hq_rcv rfl rfl) (f_X12_isFree_run (Nat.le_sub_of_add_le (Nat.le_trans (by decide) hd)) hy12) rfl ?_
    obtain ⟨z13, hz13, h⟩ := hq_bind h
    suffices hT : hq_R (mm_O xs) d mc_X12_chance 105 [some (.ref 174), some (.int a1), some (.int a2), some (.int a3), some (.int x11), some (.int a5), some (.int a6), some (.int a7)] [.int z13, .int a5] y12.2 g (some (.int y.1)) y.2 from by
      clear h
      have h := hz13
      by_cases c14 : y12.1 = 0
      · rw [if_pos c14] at h
        refine hq_izT rfl (hq_c_eq_T c14) ?_
        refine hq_p 1 105 [some (.ref 174), some (.int a1), some (.int a2), some (.int a3), some (.int x11), some (.int a5), some (.int a6), some (.int a7)] [.int (1 : Int32), .int a5] (fun n h => rfl) ?_
        cases h
        exact hT
      · rw [if_neg c14] at h
        refine hq_izF rfl (hq_c_eq_F c14) ?_
        refine hq_p 2 105 [some (.ref 174), some (.int a1), some (.int a2), some (.int a3), some (.int x11), some (.int a5), some (.int a6), some (.int a7)] [.int (0 : Int32), .int a5] (fun n h => rfl) ?_
        cases h
        exact hT
    refine hq_p 4 39 [some (.ref 174), some (.int a1), some (.int a2), some (.int a3), some (.int x11), some (.int (a5 + z13)), some (.int (a6 + (1 : Int32))), some (.int a7)] [] (fun n h => rfl) ?_
    exact e39 a1 a2 a3 x11 (a5 + z13) (a6 + (1 : Int32)) _ y12.2 h
theorem f_X12_chance_L63_run {xs : List Int32} {n m d g : Nat} {a1 : Int32} {a2 : Int32} {a3 : Int32} {a4 : Int32} {a5 : Int32} {a6 : Int32} {a7 : Int32} {q39 : Int32 → Int32 → Int32 → Int32 → Int32 → Int32 → hq_S → Option (Int32 × hq_S)} {s : hq_S} {y : (Int32 × hq_S)} (hd : 6 ≤ d) (e39 : ∀ (a1 : Int32) (a2 : Int32) (a3 : Int32) (a4 : Int32) (a5 : Int32) (a6 : Int32) (o7 : Option Value) (s : hq_S), q39 a1 a2 a3 a4 a5 a6 s = some y → hq_R (mm_O xs) d mc_X12_chance 39 [some (.ref 174), some (.int a1), some (.int a2), some (.int a3), some (.int a4), some (.int a5), some (.int a6), o7] [] s g (some (.int y.1)) y.2) (h : f_X12_chance_L63 n q39 m a1 a2 a3 a4 a5 a6 a7 s = some y) : hq_R (mm_O xs) d mc_X12_chance 63 [some (.ref 174), some (.int a1), some (.int a2), some (.int a3), some (.int a4), some (.int a5), some (.int a6), some (.int a7)] [] s g (some (.int y.1)) y.2 := by
  induction m generalizing a1 a2 a3 a4 a5 a6 a7 s with
  | zero => cases h
  | succ m ih => exact f_X12_chance_L63_Brun (n := n) hd e39 (fun a1 a2 a3 a4 a5 a6 a7 s h => ih h) h
def f_X12_chance_L39_B (n : Nat) (q39 : Int32 → Int32 → Int32 → Int32 → Int32 → Int32 → hq_S → Option (Int32 × hq_S)) (a1 : Int32) (a2 : Int32) (a3 : Int32) (a4 : Int32) (a5 : Int32) (a6 : Int32) (s : hq_S) : Option (Int32 × hq_S) := if a6 < (10 : Int32) then (f_X12_copies n (1 : Int32) (0 : Int32) s).bind fun s8 => (hq_st s8 197 23 (1 : Int32) a4).bind fun s9 => f_X12_chance_L63 n q39 n a1 a2 a3 a4 a5 a6 (0 : Int32) s9 else some (a5, s)
def f_X12_chance_L39 (n : Nat) (m : Nat) : Int32 → Int32 → Int32 → Int32 → Int32 → Int32 → hq_S → Option (Int32 × hq_S) := Nat.rec (fun _ _ _ _ _ _ _ => none) (fun _ q => f_X12_chance_L39_B n q) m
theorem f_X12_chance_L39_Brun {xs : List Int32} {n d g : Nat} {a1 : Int32} {a2 : Int32} {a3 : Int32} {a4 : Int32} {a5 : Int32} {a6 : Int32} {o7 : Option Value} {q39 : Int32 → Int32 → Int32 → Int32 → Int32 → Int32 → hq_S → Option (Int32 × hq_S)} {s : hq_S} {y : (Int32 × hq_S)} (hd : 6 ≤ d) (e39 : ∀ (a1 : Int32) (a2 : Int32) (a3 : Int32) (a4 : Int32) (a5 : Int32) (a6 : Int32) (o7 : Option Value) (s : hq_S), q39 a1 a2 a3 a4 a5 a6 s = some y → hq_R (mm_O xs) d mc_X12_chance 39 [some (.ref 174), some (.int a1), some (.int a2), some (.int a3), some (.int a4), some (.int a5), some (.int a6), o7] [] s g (some (.int y.1)) y.2) (h : f_X12_chance_L39_B n q39 a1 a2 a3 a4 a5 a6 s = some y) : hq_R (mm_O xs) d mc_X12_chance 39 [some (.ref 174), some (.int a1), some (.int a2), some (.int a3), some (.int a4), some (.int a5), some (.int a6), o7] [] s g (some (.int y.1)) y.2 := by
  unfold f_X12_chance_L39_B at h
  refine hq_p 2 43 [some (.ref 174), some (.int a1), some (.int a2), some (.int a3), some (.int a4), some (.int a5), some (.int a6), o7] [.int (10 : Int32), .int a6] (fun n h => rfl) ?_
  by_cases c7 : a6 < (10 : Int32)
  · rw [if_pos c7] at h
    refine hq_icF rfl (hq_c_ge_F c7) ?_
    refine hq_p 3 49 [some (.ref 174), some (.int a1), some (.int a2), some (.int a3), some (.int a4), some (.int a5), some (.int a6), o7] [.int (0 : Int32), .int (1 : Int32), .ref 174] (fun n h => rfl) ?_
    obtain ⟨s8, hs8, h⟩ := hq_bind h
    refine hq_inv rfl rfl (Nat.le_trans (by decide) hd) rfl rfl (hq_rcv rfl rfl) (f_X12_copies_run (Nat.le_sub_of_add_le (Nat.le_trans (by decide) hd)) hs8) rfl ?_
    refine hq_p 1 53 [some (.ref 174), some (.int a1), some (.int a2), some (.int a3), some (.int a4), some (.int a5), some (.int a6), o7] [.ref 174] (fun n h => rfl) ?_
    refine hq_gf (x := .ref 197) rfl rfl rfl rfl rfl ?_
    refine hq_p 2 59 [some (.ref 174), some (.int a1), some (.int a2), some (.int a3), some (.int a4), some (.int a5), some (.int a6), o7] [.int a4, .int (1 : Int32), .ref 197] (fun n h => rfl) ?_
    obtain ⟨s9, hs9, h⟩ := hq_bind h
    refine hq_iastore rfl rfl List.length_replicate hs9 ?_
    refine hq_p 2 63 [some (.ref 174), some (.int a1), some (.int a2), some (.int a3), some (.int a4), some (.int a5), some (.int a6), some (.int (0 : Int32))] [] (fun n h => rfl) ?_
    exact f_X12_chance_L63_run hd e39 h
  · rw [if_neg c7] at h
    refine hq_icT rfl (hq_c_ge_T c7) ?_
    refine hq_p 1 116 [some (.ref 174), some (.int a1), some (.int a2), some (.int a3), some (.int a4), some (.int a5), some (.int a6), o7] [.int a5] (fun n h => rfl) ?_
    have h := Option.some.inj h
    subst h
    exact ⟨1, rfl⟩
theorem f_X12_chance_L39_run {xs : List Int32} {n m d g : Nat} {a1 : Int32} {a2 : Int32} {a3 : Int32} {a4 : Int32} {a5 : Int32} {a6 : Int32} {o7 : Option Value} {s : hq_S} {y : (Int32 × hq_S)} (hd : 6 ≤ d) (h : f_X12_chance_L39 n m a1 a2 a3 a4 a5 a6 s = some y) : hq_R (mm_O xs) d mc_X12_chance 39 [some (.ref 174), some (.int a1), some (.int a2), some (.int a3), some (.int a4), some (.int a5), some (.int a6), o7] [] s g (some (.int y.1)) y.2 := by
  induction m generalizing a1 a2 a3 a4 a5 a6 o7 s with
  | zero => cases h
  | succ m ih => exact f_X12_chance_L39_Brun (n := n) hd (fun a1 a2 a3 a4 a5 a6 o7 s h => ih h) h
def f_X12_chance (n : Nat) (a1 : Int32) (a2 : Int32) (a3 : Int32) (s : hq_S) : Option (Int32 × hq_S) := (hq_pi s 174 0 0 (0 : Int32)).bind fun s1 => if a1 < 0 then some ((-1 : Int32), s1) else if a2 < (1 : Int32) then some ((-1 : Int32), s1) else if (99 : Int32) < a2 then some ((-1 : Int32), s1) else (f_X12_isThief n a3 s1).bind fun y5 => if y5.1 = 0 then some ((-1 : Int32), y5.2) else f_X12_chance_L39 n n a1 a2 a3 a1 (0 : Int32) (0 : Int32) y5.2
theorem f_X12_chance_run {xs : List Int32} {n d g : Nat} {a1 : Int32} {a2 : Int32} {a3 : Int32} {s : hq_S} {y : (Int32 × hq_S)} (hd : 6 ≤ d) (h : f_X12_chance n a1 a2 a3 s = some y) : hq_R (mm_O xs) d mc_X12_chance 0 [some (.ref 174), some (.int a1), some (.int a2), some (.int a3), none, none, none, none] [] s g (some (.int y.1)) y.2 := by
  unfold f_X12_chance at h
  refine hq_p 2 2 [some (.ref 174), some (.int a1), some (.int a2), some (.int a3), none, none, none, none] [.int (0 : Int32), .ref 174] (fun n h => rfl) ?_
  obtain ⟨s1, hs1, h⟩ := hq_bind h
  refine hq_pfi rfl rfl rfl rfl rfl hs1 ?_
  refine hq_p 1 6 [some (.ref 174), some (.int a1), some (.int a2), some (.int a3), none, none, none, none] [.int a1] (fun n h => rfl) ?_
  by_cases c2 : a1 < 0
  · rw [if_pos c2] at h
    refine hq_izT rfl (hq_c_lt_T c2) ?_
    refine hq_icn (-1 : Int32) rfl (by decide) ?_
    have h := Option.some.inj h
    subst h
    exact ⟨1, rfl⟩
  · rw [if_neg c2] at h
    refine hq_izF rfl (hq_c_lt_F c2) ?_
    refine hq_p 2 11 [some (.ref 174), some (.int a1), some (.int a2), some (.int a3), none, none, none, none] [.int (1 : Int32), .int a2] (fun n h => rfl) ?_
    by_cases c3 : a2 < (1 : Int32)
    · rw [if_pos c3] at h
      refine hq_icT rfl (hq_c_lt_T c3) ?_
      refine hq_icn (-1 : Int32) rfl (by decide) ?_
      have h := Option.some.inj h
      subst h
      exact ⟨1, rfl⟩
    · rw [if_neg c3] at h
      refine hq_icF rfl (hq_c_lt_F c3) ?_
      refine hq_p 1 15 [some (.ref 174), some (.int a1), some (.int a2), some (.int a3), none, none, none, none] [.int a2] (fun n h => rfl) ?_
      refine hq_bip (99 : Int32) rfl (by decide) ?_
      by_cases c4 : (99 : Int32) < a2
      · rw [if_pos c4] at h
        refine hq_icT rfl (hq_c_gt_T c4) ?_
        refine hq_icn (-1 : Int32) rfl (by decide) ?_
        have h := Option.some.inj h
        subst h
        exact ⟨1, rfl⟩
      · rw [if_neg c4] at h
        refine hq_icF rfl (hq_c_gt_F c4) ?_
        refine hq_p 2 22 [some (.ref 174), some (.int a1), some (.int a2), some (.int a3), none, none, none, none] [.int a3, .ref 174] (fun n h => rfl) ?_
        obtain ⟨y5, hy5, h⟩ := hq_bind h
        refine hq_inv rfl rfl (Nat.le_trans (by decide) hd) rfl rfl (hq_rcv rfl rfl) (f_X12_isThief_run (Nat.le_sub_of_add_le (Nat.le_trans (by decide) hd)) hy5) rfl ?_
        by_cases c6 : y5.1 = 0
        · rw [if_pos c6] at h
          refine hq_izF rfl (hq_c_ne_F c6) ?_
          refine hq_icn (-1 : Int32) rfl (by decide) ?_
          have h := Option.some.inj h
          subst h
          exact ⟨1, rfl⟩
        · rw [if_neg c6] at h
          refine hq_izT rfl (hq_c_ne_T c6) ?_
          refine hq_p 6 39 [some (.ref 174), some (.int a1), some (.int a2), some (.int a3), some (.int a1), some (.int (0 : Int32)), some (.int (0 : Int32)), none] [] (fun n h => rfl) ?_
          exact f_X12_chance_L39_run hd h
def f_X12_tried (n : Nat) (a1 : Int32) (a2 : Int32) (a3 : Int32) (s : hq_S) : Option (Int32 × hq_S) := (hq_pi s 174 0 0 (0 : Int32)).bind fun s1 => (if a1 = (2 : Int32) then (f_X12_isGuard n a2 s1).bind fun y7 => some (y7.1, y7.2) else if a1 < 0 then some ((0 : Int32), s1) else if (4 : Int32) < a1 then some ((0 : Int32), s1) else if a2 = 0 then some ((1 : Int32), s1) else some ((0 : Int32), s1)).bind fun z2 => if z2.1 = 0 then some ((-1 : Int32), z2.2) else if a3 < 0 then some ((-1 : Int32), z2.2) else if (200 : Int32) < a3 then some ((-1 : Int32), z2.2) else (f_X12_copies n (1 : Int32) (0 : Int32) z2.2).bind fun s11 => (if a1 = 0 then some (5 : Int32) else some a1).bind fun z12 => (hq_pi s11 174 49 0 z12).bind fun s14 => (hq_pi s14 174 50 0 a2).bind fun s15 => (f_X12_goesOn n a3 s15).bind fun s16 => (hq_pi s16 174 49 0 (0 : Int32)).bind fun s17 => (hq_pi s17 174 50 0 (-1 : Int32)).bind fun s18 => (f_X12_sumOf n 204 (4 : Int32) (1 : Int32) s18).bind fun y19 => some (y19.1, y19.2)
theorem f_X12_tried_run {xs : List Int32} {n d g : Nat} {a1 : Int32} {a2 : Int32} {a3 : Int32} {s : hq_S} {y : (Int32 × hq_S)} (hd : 7 ≤ d) (h : f_X12_tried n a1 a2 a3 s = some y) : hq_R (mm_O xs) d mc_X12_tried 0 [some (.ref 174), some (.int a1), some (.int a2), some (.int a3), none] [] s g (some (.int y.1)) y.2 := by
  unfold f_X12_tried at h
  refine hq_p 2 2 [some (.ref 174), some (.int a1), some (.int a2), some (.int a3), none] [.int (0 : Int32), .ref 174] (fun n h => rfl) ?_
  obtain ⟨s1, hs1, h⟩ := hq_bind h
  refine hq_pfi rfl rfl rfl rfl rfl hs1 ?_
  refine hq_p 2 7 [some (.ref 174), some (.int a1), some (.int a2), some (.int a3), none] [.int (2 : Int32), .int a1] (fun n h => rfl) ?_
  obtain ⟨z2, hz2, h⟩ := hq_bind h
  suffices hT : hq_R (mm_O xs) d mc_X12_tried 36 [some (.ref 174), some (.int a1), some (.int a2), some (.int a3), none] [.int z2.1] z2.2 g (some (.int y.1)) y.2 from by
    clear h
    have h := hz2
    by_cases c3 : a1 = (2 : Int32)
    · rw [if_pos c3] at h
      refine hq_icF rfl (hq_c_ne_F c3) ?_
      refine hq_p 2 12 [some (.ref 174), some (.int a1), some (.int a2), some (.int a3), none] [.int a2, .ref 174] (fun n h => rfl) ?_
      obtain ⟨y7, hy7, h⟩ := hq_bind h
      refine hq_inv rfl rfl (Nat.le_trans (by decide) hd) rfl rfl (hq_rcv rfl rfl) (f_X12_isGuard_run (Nat.le_sub_of_add_le (Nat.le_trans (by decide) hd)) hy7) rfl ?_
      refine hq_p 1 36 [some (.ref 174), some (.int a1), some (.int a2), some (.int a3), none] [.int y7.1] (fun n h => rfl) ?_
      cases h
      exact hT
    · rw [if_neg c3] at h
      refine hq_icT rfl (hq_c_ne_T c3) ?_
      refine hq_p 1 19 [some (.ref 174), some (.int a1), some (.int a2), some (.int a3), none] [.int a1] (fun n h => rfl) ?_
      by_cases c4 : a1 < 0
      · rw [if_pos c4] at h
        refine hq_izT rfl (hq_c_lt_T c4) ?_
        refine hq_p 1 36 [some (.ref 174), some (.int a1), some (.int a2), some (.int a3), none] [.int (0 : Int32)] (fun n h => rfl) ?_
        cases h
        exact hT
      · rw [if_neg c4] at h
        refine hq_izF rfl (hq_c_lt_F c4) ?_
        refine hq_p 2 24 [some (.ref 174), some (.int a1), some (.int a2), some (.int a3), none] [.int (4 : Int32), .int a1] (fun n h => rfl) ?_
        by_cases c5 : (4 : Int32) < a1
        · rw [if_pos c5] at h
          refine hq_icT rfl (hq_c_gt_T c5) ?_
          refine hq_p 1 36 [some (.ref 174), some (.int a1), some (.int a2), some (.int a3), none] [.int (0 : Int32)] (fun n h => rfl) ?_
          cases h
          exact hT
        · rw [if_neg c5] at h
          refine hq_icF rfl (hq_c_gt_F c5) ?_
          refine hq_p 1 28 [some (.ref 174), some (.int a1), some (.int a2), some (.int a3), none] [.int a2] (fun n h => rfl) ?_
          by_cases c6 : a2 = 0
          · rw [if_pos c6] at h
            refine hq_izF rfl (hq_c_ne_F c6) ?_
            refine hq_p 2 36 [some (.ref 174), some (.int a1), some (.int a2), some (.int a3), none] [.int (1 : Int32)] (fun n h => rfl) ?_
            cases h
            exact hT
          · rw [if_neg c6] at h
            refine hq_izT rfl (hq_c_ne_T c6) ?_
            refine hq_p 1 36 [some (.ref 174), some (.int a1), some (.int a2), some (.int a3), none] [.int (0 : Int32)] (fun n h => rfl) ?_
            cases h
            exact hT
  refine hq_p 2 40 [some (.ref 174), some (.int a1), some (.int a2), some (.int a3), some (.int z2.1)] [.int z2.1] (fun n h => rfl) ?_
  by_cases c8 : z2.1 = 0
  · rw [if_pos c8] at h
    refine hq_izT rfl (hq_c_eq_T c8) ?_
    refine hq_icn (-1 : Int32) rfl (by decide) ?_
    have h := Option.some.inj h
    subst h
    exact ⟨1, rfl⟩
  · rw [if_neg c8] at h
    refine hq_izF rfl (hq_c_eq_F c8) ?_
    refine hq_p 1 44 [some (.ref 174), some (.int a1), some (.int a2), some (.int a3), some (.int z2.1)] [.int a3] (fun n h => rfl) ?_
    by_cases c9 : a3 < 0
    · rw [if_pos c9] at h
      refine hq_izT rfl (hq_c_lt_T c9) ?_
      refine hq_icn (-1 : Int32) rfl (by decide) ?_
      have h := Option.some.inj h
      subst h
      exact ⟨1, rfl⟩
    · rw [if_neg c9] at h
      refine hq_izF rfl (hq_c_lt_F c9) ?_
      refine hq_p 1 48 [some (.ref 174), some (.int a1), some (.int a2), some (.int a3), some (.int z2.1)] [.int a3] (fun n h => rfl) ?_
      refine hq_sip (200 : Int32) rfl (by decide) ?_
      by_cases c10 : (200 : Int32) < a3
      · rw [if_pos c10] at h
        refine hq_icF rfl (hq_c_le_F c10) ?_
        refine hq_icn (-1 : Int32) rfl (by decide) ?_
        have h := Option.some.inj h
        subst h
        exact ⟨1, rfl⟩
      · rw [if_neg c10] at h
        refine hq_icT rfl (hq_c_le_T c10) ?_
        refine hq_p 3 59 [some (.ref 174), some (.int a1), some (.int a2), some (.int a3), some (.int z2.1)] [.int (0 : Int32), .int (1 : Int32), .ref 174] (fun n h => rfl) ?_
        obtain ⟨s11, hs11, h⟩ := hq_bind h
        refine hq_inv rfl rfl (Nat.le_trans (by decide) hd) rfl rfl (hq_rcv rfl rfl) (f_X12_copies_run (Nat.le_sub_of_add_le (Nat.le_trans (by decide) hd)) hs11) rfl ?_
        refine hq_p 2 64 [some (.ref 174), some (.int a1), some (.int a2), some (.int a3), some (.int z2.1)] [.int a1, .ref 174] (fun n h => rfl) ?_
        obtain ⟨z12, hz12, h⟩ := hq_bind h
        suffices hT : hq_R (mm_O xs) d mc_X12_tried 72 [some (.ref 174), some (.int a1), some (.int a2), some (.int a3), some (.int z2.1)] [.int z12, .ref 174] s11 g (some (.int y.1)) y.2 from by
          clear h
          have h := hz12
          by_cases c13 : a1 = 0
          · rw [if_pos c13] at h
            refine hq_izF rfl (hq_c_ne_F c13) ?_
            refine hq_p 2 72 [some (.ref 174), some (.int a1), some (.int a2), some (.int a3), some (.int z2.1)] [.int (5 : Int32), .ref 174] (fun n h => rfl) ?_
            cases h
            exact hT
          · rw [if_neg c13] at h
            refine hq_izT rfl (hq_c_ne_T c13) ?_
            refine hq_p 1 72 [some (.ref 174), some (.int a1), some (.int a2), some (.int a3), some (.int z2.1)] [.int a1, .ref 174] (fun n h => rfl) ?_
            cases h
            exact hT
        obtain ⟨s14, hs14, h⟩ := hq_bind h
        refine hq_pfi rfl rfl rfl rfl rfl hs14 ?_
        refine hq_p 2 77 [some (.ref 174), some (.int a1), some (.int a2), some (.int a3), some (.int z2.1)] [.int a2, .ref 174] (fun n h => rfl) ?_
        obtain ⟨s15, hs15, h⟩ := hq_bind h
        refine hq_pfi rfl rfl rfl rfl rfl hs15 ?_
        refine hq_p 2 82 [some (.ref 174), some (.int a1), some (.int a2), some (.int a3), some (.int z2.1)] [.int a3, .ref 174] (fun n h => rfl) ?_
        obtain ⟨s16, hs16, h⟩ := hq_bind h
        refine hq_inv rfl rfl (Nat.le_trans (by decide) hd) rfl rfl (hq_rcv rfl rfl) (f_X12_goesOn_run (Nat.le_sub_of_add_le (Nat.le_trans (by decide) hd)) hs16) rfl ?_
        refine hq_p 2 87 [some (.ref 174), some (.int a1), some (.int a2), some (.int a3), some (.int z2.1)] [.int (0 : Int32), .ref 174] (fun n h => rfl) ?_
        obtain ⟨s17, hs17, h⟩ := hq_bind h
        refine hq_pfi rfl rfl rfl rfl rfl hs17 ?_
        refine hq_p 1 91 [some (.ref 174), some (.int a1), some (.int a2), some (.int a3), some (.int z2.1)] [.ref 174] (fun n h => rfl) ?_
        refine hq_icn (-1 : Int32) rfl (by decide) ?_
        obtain ⟨s18, hs18, h⟩ := hq_bind h
        refine hq_pfi rfl rfl rfl rfl rfl hs18 ?_
        refine hq_p 2 97 [some (.ref 174), some (.int a1), some (.int a2), some (.int a3), some (.int z2.1)] [.ref 174, .ref 174] (fun n h => rfl) ?_
        refine hq_gf (x := .ref 204) rfl rfl rfl rfl rfl ?_
        refine hq_p 2 102 [some (.ref 174), some (.int a1), some (.int a2), some (.int a3), some (.int z2.1)] [.int (1 : Int32), .int (4 : Int32), .ref 204, .ref 174] (fun n h => rfl) ?_
        obtain ⟨y19, hy19, h⟩ := hq_bind h
        refine hq_inv rfl rfl (Nat.le_trans (by decide) hd) rfl rfl (hq_rcv rfl rfl) (f_X12_sumOf_run (Nat.le_sub_of_add_le (Nat.le_trans (by decide) hd)) hy19) rfl ?_
        have h := Option.some.inj h
        subst h
        exact ⟨1, rfl⟩
def f_X12_undo (n : Nat) (s : hq_S) : Option (Int32 × hq_S) := (hq_pi s 174 0 0 (0 : Int32)).bind fun s1 => if (hq_gi s1 174 48) = 0 then some ((-1 : Int32), s1) else (hq_pi s1 174 48 0 ((hq_gi s1 174 48) - (1 : Int32))).bind fun s3 => (f_X12_copies n (0 : Int32) ((3 : Int32) + (hq_gi s3 174 48)) s3).bind fun s4 => some ((hq_gi s4 174 48), s4)
theorem f_X12_undo_run {xs : List Int32} {n d g : Nat} {s : hq_S} {y : (Int32 × hq_S)} (hd : 1 ≤ d) (h : f_X12_undo n s = some y) : hq_R (mm_O xs) d mc_X12_undo 0 [some (.ref 174)] [] s g (some (.int y.1)) y.2 := by
  unfold f_X12_undo at h
  refine hq_p 2 2 [some (.ref 174)] [.int (0 : Int32), .ref 174] (fun n h => rfl) ?_
  obtain ⟨s1, hs1, h⟩ := hq_bind h
  refine hq_pfi rfl rfl rfl rfl rfl hs1 ?_
  refine hq_p 1 6 [some (.ref 174)] [.ref 174] (fun n h => rfl) ?_
  refine hq_gf (x := .int (hq_gi s1 174 48)) rfl rfl rfl rfl rfl ?_
  by_cases c2 : (hq_gi s1 174 48) = 0
  · rw [if_pos c2] at h
    refine hq_izF rfl (hq_c_ne_F c2) ?_
    refine hq_icn (-1 : Int32) rfl (by decide) ?_
    have h := Option.some.inj h
    subst h
    exact ⟨1, rfl⟩
  · rw [if_neg c2] at h
    refine hq_izT rfl (hq_c_ne_T c2) ?_
    refine hq_p 2 16 [some (.ref 174)] [.ref 174, .ref 174] (fun n h => rfl) ?_
    refine hq_gf (x := .int (hq_gi s1 174 48)) rfl rfl rfl rfl rfl ?_
    refine hq_p 2 21 [some (.ref 174)] [.int ((hq_gi s1 174 48) - (1 : Int32)), .ref 174] (fun n h => rfl) ?_
    obtain ⟨s3, hs3, h⟩ := hq_bind h
    refine hq_pfi rfl rfl rfl rfl rfl hs3 ?_
    refine hq_p 4 28 [some (.ref 174)] [.ref 174, .int (3 : Int32), .int (0 : Int32), .ref 174] (fun n h => rfl) ?_
    refine hq_gf (x := .int (hq_gi s3 174 48)) rfl rfl rfl rfl rfl ?_
    refine hq_p 1 32 [some (.ref 174)] [.int ((3 : Int32) + (hq_gi s3 174 48)), .int (0 : Int32), .ref 174] (fun n h => rfl) ?_
    obtain ⟨s4, hs4, h⟩ := hq_bind h
    refine hq_inv rfl rfl (Nat.le_trans (by decide) hd) rfl rfl (hq_rcv rfl rfl) (f_X12_copies_run (Nat.le_sub_of_add_le (Nat.le_trans (by decide) hd)) hs4) rfl ?_
    refine hq_p 1 36 [some (.ref 174)] [.ref 174] (fun n h => rfl) ?_
    refine hq_gf (x := .int (hq_gi s4 174 48)) rfl rfl rfl rfl rfl ?_
    have h := Option.some.inj h
    subst h
    exact ⟨1, rfl⟩
def f_X12_keep (n : Nat) (s : hq_S) : Option (Int32 × hq_S) := (hq_pi s 174 0 0 (0 : Int32)).bind fun s1 => (f_X12_copies n (2 : Int32) (0 : Int32) s1).bind fun s2 => (hq_pi s2 174 47 1 (1 : Int32)).bind fun s3 => (hq_ld s3 196 23 (0 : Int32)).bind fun x4 => some (x4, s3)
theorem f_X12_keep_run {xs : List Int32} {n d g : Nat} {s : hq_S} {y : (Int32 × hq_S)} (hd : 1 ≤ d) (h : f_X12_keep n s = some y) : hq_R (mm_O xs) d mc_X12_keep 0 [some (.ref 174)] [] s g (some (.int y.1)) y.2 := by
  unfold f_X12_keep at h
  refine hq_p 2 2 [some (.ref 174)] [.int (0 : Int32), .ref 174] (fun n h => rfl) ?_
  obtain ⟨s1, hs1, h⟩ := hq_bind h
  refine hq_pfi rfl rfl rfl rfl rfl hs1 ?_
  refine hq_p 3 8 [some (.ref 174)] [.int (0 : Int32), .int (2 : Int32), .ref 174] (fun n h => rfl) ?_
  obtain ⟨s2, hs2, h⟩ := hq_bind h
  refine hq_inv rfl rfl (Nat.le_trans (by decide) hd) rfl rfl (hq_rcv rfl rfl) (f_X12_copies_run (Nat.le_sub_of_add_le (Nat.le_trans (by decide) hd)) hs2) rfl ?_
  refine hq_p 2 13 [some (.ref 174)] [.int (1 : Int32), .ref 174] (fun n h => rfl) ?_
  obtain ⟨s3, hs3, h⟩ := hq_bind h
  refine hq_pfi rfl rfl rfl rfl rfl hs3 ?_
  refine hq_p 1 17 [some (.ref 174)] [.ref 174] (fun n h => rfl) ?_
  refine hq_gf (x := .ref 196) rfl rfl rfl rfl rfl ?_
  refine hq_p 1 21 [some (.ref 174)] [.int (0 : Int32), .ref 196] (fun n h => rfl) ?_
  obtain ⟨x4, hx4, h⟩ := hq_bind h
  refine hq_iaload rfl rfl List.length_replicate hx4 ?_
  have h := Option.some.inj h
  subst h
  exact ⟨1, rfl⟩
def f_X12_back (n : Nat) (s : hq_S) : Option (Int32 × hq_S) := (hq_pi s 174 0 0 (0 : Int32)).bind fun s1 => if (hq_gi s1 174 47) = 0 then some ((-1 : Int32), s1) else (f_X12_copies n (0 : Int32) (2 : Int32) s1).bind fun s3 => (hq_pi s3 174 48 0 (0 : Int32)).bind fun s4 => (hq_ld s4 196 23 (0 : Int32)).bind fun x5 => some (x5, s4)
theorem f_X12_back_run {xs : List Int32} {n d g : Nat} {s : hq_S} {y : (Int32 × hq_S)} (hd : 1 ≤ d) (h : f_X12_back n s = some y) : hq_R (mm_O xs) d mc_X12_back 0 [some (.ref 174)] [] s g (some (.int y.1)) y.2 := by
  unfold f_X12_back at h
  refine hq_p 2 2 [some (.ref 174)] [.int (0 : Int32), .ref 174] (fun n h => rfl) ?_
  obtain ⟨s1, hs1, h⟩ := hq_bind h
  refine hq_pfi rfl rfl rfl rfl rfl hs1 ?_
  refine hq_p 1 6 [some (.ref 174)] [.ref 174] (fun n h => rfl) ?_
  refine hq_gf (x := .int (hq_gi s1 174 47)) rfl rfl rfl rfl rfl ?_
  by_cases c2 : (hq_gi s1 174 47) = 0
  · rw [if_pos c2] at h
    refine hq_izF rfl (hq_c_ne_F c2) ?_
    refine hq_icn (-1 : Int32) rfl (by decide) ?_
    have h := Option.some.inj h
    subst h
    exact ⟨1, rfl⟩
  · rw [if_neg c2] at h
    refine hq_izT rfl (hq_c_ne_T c2) ?_
    refine hq_p 3 17 [some (.ref 174)] [.int (2 : Int32), .int (0 : Int32), .ref 174] (fun n h => rfl) ?_
    obtain ⟨s3, hs3, h⟩ := hq_bind h
    refine hq_inv rfl rfl (Nat.le_trans (by decide) hd) rfl rfl (hq_rcv rfl rfl) (f_X12_copies_run (Nat.le_sub_of_add_le (Nat.le_trans (by decide) hd)) hs3) rfl ?_
    refine hq_p 2 22 [some (.ref 174)] [.int (0 : Int32), .ref 174] (fun n h => rfl) ?_
    obtain ⟨s4, hs4, h⟩ := hq_bind h
    refine hq_pfi rfl rfl rfl rfl rfl hs4 ?_
    refine hq_p 1 26 [some (.ref 174)] [.ref 174] (fun n h => rfl) ?_
    refine hq_gf (x := .ref 196) rfl rfl rfl rfl rfl ?_
    refine hq_p 1 30 [some (.ref 174)] [.int (0 : Int32), .ref 196] (fun n h => rfl) ?_
    obtain ⟨x5, hx5, h⟩ := hq_bind h
    refine hq_iaload rfl rfl List.length_replicate hx5 ?_
    have h := Option.some.inj h
    subst h
    exact ⟨1, rfl⟩
def f_X12_count (n : Nat) (a1 : Int32) (s : hq_S) : Option (Int32 × hq_S) := (hq_pi s 174 0 0 (0 : Int32)).bind fun s1 => if a1 = (0 : Int32) then (hq_ld s1 176 14 (0 : Int32)).bind fun x3 => some (x3, s1) else if a1 = (1 : Int32) then (hq_ld s1 176 14 (1 : Int32)).bind fun x5 => some (x5, s1) else if a1 = (2 : Int32) then (hq_ld s1 176 14 (2 : Int32)).bind fun x7 => some (x7, s1) else if a1 = (3 : Int32) then (hq_ld s1 176 14 (3 : Int32)).bind fun x9 => some (x9, s1) else if a1 = (4 : Int32) then (hq_ld s1 176 14 (6 : Int32)).bind fun x11 => some (x11, s1) else if a1 = (5 : Int32) then (hq_ld s1 196 23 (0 : Int32)).bind fun x13 => some (x13, s1) else if a1 = (6 : Int32) then (f_X12_caughtOnes n (0 : Int32) s1).bind fun y15 => some (y15.1, y15.2) else if a1 = (7 : Int32) then (f_X12_sumOf n 199 (10 : Int32) (0 : Int32) s1).bind fun y17 => some (y17.1, y17.2) else if a1 = (8 : Int32) then (f_X12_sumOf n 204 (4 : Int32) (0 : Int32) s1).bind fun y19 => some (y19.1, y19.2) else if a1 = (9 : Int32) then (hq_ld s1 198 23 (0 : Int32)).bind fun x21 => (f_X12_bitsOf n x21 s1).bind fun y22 => some (y22.1, y22.2) else if a1 = (10 : Int32) then some ((hq_gi s1 174 74), s1) else if a1 = (11 : Int32) then (f_X12_knownMany n s1).bind fun y25 => some (y25.1, y25.2) else if a1 = (12 : Int32) then some ((hq_gi s1 174 48), s1) else some ((-1 : Int32), s1)
theorem f_X12_count_run {xs : List Int32} {n d g : Nat} {a1 : Int32} {s : hq_S} {y : (Int32 × hq_S)} (hd : 2 ≤ d) (h : f_X12_count n a1 s = some y) : hq_R (mm_O xs) d mc_X12_count 0 [some (.ref 174), some (.int a1)] [] s g (some (.int y.1)) y.2 := by
  unfold f_X12_count at h
  refine hq_p 2 2 [some (.ref 174), some (.int a1)] [.int (0 : Int32), .ref 174] (fun n h => rfl) ?_
  obtain ⟨s1, hs1, h⟩ := hq_bind h
  refine hq_pfi rfl rfl rfl rfl rfl hs1 ?_
  refine hq_p 1 6 [some (.ref 174), some (.int a1)] [.int a1] (fun n h => rfl) ?_
  by_cases c2 : a1 = (0 : Int32)
  · rw [if_pos c2] at h
    refine hq_tsw rfl (show _ = some 72 from by rw [c2]; decide) ?_
    refine hq_p 1 73 [some (.ref 174), some (.int a1)] [.ref 174] (fun n h => rfl) ?_
    refine hq_gf (x := .ref 176) rfl rfl rfl rfl rfl ?_
    refine hq_p 1 77 [some (.ref 174), some (.int a1)] [.int (0 : Int32), .ref 176] (fun n h => rfl) ?_
    obtain ⟨x3, hx3, h⟩ := hq_bind h
    refine hq_iaload rfl rfl rfl hx3 ?_
    have h := Option.some.inj h
    subst h
    exact ⟨1, rfl⟩
  rw [if_neg c2] at h
  by_cases c4 : a1 = (1 : Int32)
  · rw [if_pos c4] at h
    refine hq_tsw rfl (show _ = some 79 from by rw [c4]; decide) ?_
    refine hq_p 1 80 [some (.ref 174), some (.int a1)] [.ref 174] (fun n h => rfl) ?_
    refine hq_gf (x := .ref 176) rfl rfl rfl rfl rfl ?_
    refine hq_p 1 84 [some (.ref 174), some (.int a1)] [.int (1 : Int32), .ref 176] (fun n h => rfl) ?_
    obtain ⟨x5, hx5, h⟩ := hq_bind h
    refine hq_iaload rfl rfl rfl hx5 ?_
    have h := Option.some.inj h
    subst h
    exact ⟨1, rfl⟩
  rw [if_neg c4] at h
  by_cases c6 : a1 = (2 : Int32)
  · rw [if_pos c6] at h
    refine hq_tsw rfl (show _ = some 86 from by rw [c6]; decide) ?_
    refine hq_p 1 87 [some (.ref 174), some (.int a1)] [.ref 174] (fun n h => rfl) ?_
    refine hq_gf (x := .ref 176) rfl rfl rfl rfl rfl ?_
    refine hq_p 1 91 [some (.ref 174), some (.int a1)] [.int (2 : Int32), .ref 176] (fun n h => rfl) ?_
    obtain ⟨x7, hx7, h⟩ := hq_bind h
    refine hq_iaload rfl rfl rfl hx7 ?_
    have h := Option.some.inj h
    subst h
    exact ⟨1, rfl⟩
  rw [if_neg c6] at h
  by_cases c8 : a1 = (3 : Int32)
  · rw [if_pos c8] at h
    refine hq_tsw rfl (show _ = some 93 from by rw [c8]; decide) ?_
    refine hq_p 1 94 [some (.ref 174), some (.int a1)] [.ref 174] (fun n h => rfl) ?_
    refine hq_gf (x := .ref 176) rfl rfl rfl rfl rfl ?_
    refine hq_p 1 98 [some (.ref 174), some (.int a1)] [.int (3 : Int32), .ref 176] (fun n h => rfl) ?_
    obtain ⟨x9, hx9, h⟩ := hq_bind h
    refine hq_iaload rfl rfl rfl hx9 ?_
    have h := Option.some.inj h
    subst h
    exact ⟨1, rfl⟩
  rw [if_neg c8] at h
  by_cases c10 : a1 = (4 : Int32)
  · rw [if_pos c10] at h
    refine hq_tsw rfl (show _ = some 100 from by rw [c10]; decide) ?_
    refine hq_p 1 101 [some (.ref 174), some (.int a1)] [.ref 174] (fun n h => rfl) ?_
    refine hq_gf (x := .ref 176) rfl rfl rfl rfl rfl ?_
    refine hq_p 1 106 [some (.ref 174), some (.int a1)] [.int (6 : Int32), .ref 176] (fun n h => rfl) ?_
    obtain ⟨x11, hx11, h⟩ := hq_bind h
    refine hq_iaload rfl rfl rfl hx11 ?_
    have h := Option.some.inj h
    subst h
    exact ⟨1, rfl⟩
  rw [if_neg c10] at h
  by_cases c12 : a1 = (5 : Int32)
  · rw [if_pos c12] at h
    refine hq_tsw rfl (show _ = some 108 from by rw [c12]; decide) ?_
    refine hq_p 1 109 [some (.ref 174), some (.int a1)] [.ref 174] (fun n h => rfl) ?_
    refine hq_gf (x := .ref 196) rfl rfl rfl rfl rfl ?_
    refine hq_p 1 113 [some (.ref 174), some (.int a1)] [.int (0 : Int32), .ref 196] (fun n h => rfl) ?_
    obtain ⟨x13, hx13, h⟩ := hq_bind h
    refine hq_iaload rfl rfl List.length_replicate hx13 ?_
    have h := Option.some.inj h
    subst h
    exact ⟨1, rfl⟩
  rw [if_neg c12] at h
  by_cases c14 : a1 = (6 : Int32)
  · rw [if_pos c14] at h
    refine hq_tsw rfl (show _ = some 115 from by rw [c14]; decide) ?_
    refine hq_p 2 117 [some (.ref 174), some (.int a1)] [.int (0 : Int32), .ref 174] (fun n h => rfl) ?_
    obtain ⟨y15, hy15, h⟩ := hq_bind h
    refine hq_inv rfl rfl (Nat.le_trans (by decide) hd) rfl rfl (hq_rcv rfl rfl) (f_X12_caughtOnes_run (Nat.le_sub_of_add_le (Nat.le_trans (by decide) hd)) hy15) rfl ?_
    have h := Option.some.inj h
    subst h
    exact ⟨1, rfl⟩
  rw [if_neg c14] at h
  by_cases c16 : a1 = (7 : Int32)
  · rw [if_pos c16] at h
    refine hq_tsw rfl (show _ = some 121 from by rw [c16]; decide) ?_
    refine hq_p 2 123 [some (.ref 174), some (.int a1)] [.ref 174, .ref 174] (fun n h => rfl) ?_
    refine hq_gf (x := .ref 199) rfl rfl rfl rfl rfl ?_
    refine hq_p 2 129 [some (.ref 174), some (.int a1)] [.int (0 : Int32), .int (10 : Int32), .ref 199, .ref 174] (fun n h => rfl) ?_
    obtain ⟨y17, hy17, h⟩ := hq_bind h
    refine hq_inv rfl rfl (Nat.le_trans (by decide) hd) rfl rfl (hq_rcv rfl rfl) (f_X12_sumOf_run (Nat.le_sub_of_add_le (Nat.le_trans (by decide) hd)) hy17) rfl ?_
    have h := Option.some.inj h
    subst h
    exact ⟨1, rfl⟩
  rw [if_neg c16] at h
  by_cases c18 : a1 = (8 : Int32)
  · rw [if_pos c18] at h
    refine hq_tsw rfl (show _ = some 133 from by rw [c18]; decide) ?_
    refine hq_p 2 135 [some (.ref 174), some (.int a1)] [.ref 174, .ref 174] (fun n h => rfl) ?_
    refine hq_gf (x := .ref 204) rfl rfl rfl rfl rfl ?_
    refine hq_p 2 140 [some (.ref 174), some (.int a1)] [.int (0 : Int32), .int (4 : Int32), .ref 204, .ref 174] (fun n h => rfl) ?_
    obtain ⟨y19, hy19, h⟩ := hq_bind h
    refine hq_inv rfl rfl (Nat.le_trans (by decide) hd) rfl rfl (hq_rcv rfl rfl) (f_X12_sumOf_run (Nat.le_sub_of_add_le (Nat.le_trans (by decide) hd)) hy19) rfl ?_
    have h := Option.some.inj h
    subst h
    exact ⟨1, rfl⟩
  rw [if_neg c18] at h
  by_cases c20 : a1 = (9 : Int32)
  · rw [if_pos c20] at h
    refine hq_tsw rfl (show _ = some 144 from by rw [c20]; decide) ?_
    refine hq_p 1 145 [some (.ref 174), some (.int a1)] [.ref 174] (fun n h => rfl) ?_
    refine hq_gf (x := .ref 198) rfl rfl rfl rfl rfl ?_
    refine hq_p 1 149 [some (.ref 174), some (.int a1)] [.int (0 : Int32), .ref 198] (fun n h => rfl) ?_
    obtain ⟨x21, hx21, h⟩ := hq_bind h
    refine hq_iaload rfl rfl List.length_replicate hx21 ?_
    obtain ⟨y22, hy22, h⟩ := hq_bind h
    refine hq_ist rfl rfl rfl (Nat.le_trans (by decide) hd) rfl (f_X12_bitsOf_run (Nat.le_sub_of_add_le (Nat.le_trans (by decide) hd)) hy22) rfl ?_
    have h := Option.some.inj h
    subst h
    exact ⟨1, rfl⟩
  rw [if_neg c20] at h
  by_cases c23 : a1 = (10 : Int32)
  · rw [if_pos c23] at h
    refine hq_tsw rfl (show _ = some 154 from by rw [c23]; decide) ?_
    refine hq_p 1 155 [some (.ref 174), some (.int a1)] [.ref 174] (fun n h => rfl) ?_
    refine hq_gf (x := .int (hq_gi s1 174 74)) rfl rfl rfl rfl rfl ?_
    have h := Option.some.inj h
    subst h
    exact ⟨1, rfl⟩
  rw [if_neg c23] at h
  by_cases c24 : a1 = (11 : Int32)
  · rw [if_pos c24] at h
    refine hq_tsw rfl (show _ = some 159 from by rw [c24]; decide) ?_
    refine hq_p 1 160 [some (.ref 174), some (.int a1)] [.ref 174] (fun n h => rfl) ?_
    obtain ⟨y25, hy25, h⟩ := hq_bind h
    refine hq_inv rfl rfl (Nat.le_trans (by decide) hd) rfl rfl (hq_rcv rfl rfl) (f_X12_knownMany_run (Nat.le_sub_of_add_le (Nat.le_trans (by decide) hd)) hy25) rfl ?_
    have h := Option.some.inj h
    subst h
    exact ⟨1, rfl⟩
  rw [if_neg c24] at h
  by_cases c26 : a1 = (12 : Int32)
  · rw [if_pos c26] at h
    refine hq_tsw rfl (show _ = some 164 from by rw [c26]; decide) ?_
    refine hq_p 1 165 [some (.ref 174), some (.int a1)] [.ref 174] (fun n h => rfl) ?_
    refine hq_gf (x := .int (hq_gi s1 174 48)) rfl rfl rfl rfl rfl ?_
    have h := Option.some.inj h
    subst h
    exact ⟨1, rfl⟩
  rw [if_neg c26] at h
  refine hq_tsw rfl (hq_tsw_d [(0 : Int32), (1 : Int32), (2 : Int32), (3 : Int32), (4 : Int32), (5 : Int32), (6 : Int32), (7 : Int32), (8 : Int32), (9 : Int32), (10 : Int32), (11 : Int32), (12 : Int32)] (by decide) rfl ⟨c2, c4, c6, c8, c10, c12, c14, c16, c18, c20, c23, c24, c26, trivial⟩) ?_
  refine hq_icn (-1 : Int32) rfl (by decide) ?_
  have h := Option.some.inj h
  subst h
  exact ⟨1, rfl⟩
