def f_X12_reads10_L7_B (n : Nat) (q7 : Int32 → Int32 → Int32 → hq_S → Option (Int32 × hq_S)) (a1 : Int32) (a2 : Int32) (a3 : Int32) (s : hq_S) : Option (Int32 × hq_S) := if a3 < 0 then some ((1 : Int32), s) else (hq_irem a2 (10 : Int32)).bind fun x2 => (hq_st s 211 4 a3 x2).bind fun s3 => (hq_idiv a2 (10 : Int32)).bind fun x4 => (hq_ld s3 211 4 a3).bind fun x5 => (hq_ld s3 176 14 (0 : Int32)).bind fun x6 => if x5 < x6 then q7 a1 x4 (a3 + Int32.ofInt (-1)) s3 else some ((0 : Int32), s3)
def f_X12_reads10_L7 (n : Nat) (m : Nat) : Int32 → Int32 → Int32 → hq_S → Option (Int32 × hq_S) := Nat.rec (fun _ _ _ _ => none) (fun _ q => f_X12_reads10_L7_B n q) m
theorem f_X12_reads10_L7_Brun {xs : List Int32} {n d g : Nat} {a1 : Int32} {a2 : Int32} {a3 : Int32} {q7 : Int32 → Int32 → Int32 → hq_S → Option (Int32 × hq_S)} {s : hq_S} {y : (Int32 × hq_S)} (hd : 0 ≤ d) (e7 : ∀ (a1 : Int32) (a2 : Int32) (a3 : Int32) (s : hq_S), q7 a1 a2 a3 s = some y → hq_R (mm_O xs) d mc_X12_reads10 7 [some (.ref 174), some (.int a1), some (.int a2), some (.int a3)] [] s g (some (.int y.1)) y.2) (h : f_X12_reads10_L7_B n q7 a1 a2 a3 s = some y) : hq_R (mm_O xs) d mc_X12_reads10 7 [some (.ref 174), some (.int a1), some (.int a2), some (.int a3)] [] s g (some (.int y.1)) y.2 := by
  unfold f_X12_reads10_L7_B at h
  refine hq_p 1 8 [some (.ref 174), some (.int a1), some (.int a2), some (.int a3)] [.int a3] (fun n h => rfl) ?_
  by_cases c1 : a3 < 0
  · rw [if_pos c1] at h
    refine hq_izT rfl (hq_c_lt_T c1) ?_
    refine hq_p 1 50 [some (.ref 174), some (.int a1), some (.int a2), some (.int a3)] [.int (1 : Int32)] (fun n h => rfl) ?_
    have h := Option.some.inj h
    subst h
    exact ⟨1, rfl⟩
  · rw [if_neg c1] at h
    refine hq_izF rfl (hq_c_lt_F c1) ?_
    refine hq_p 1 12 [some (.ref 174), some (.int a1), some (.int a2), some (.int a3)] [.ref 174] (fun n h => rfl) ?_
    refine hq_gf (x := .ref 211) rfl rfl rfl rfl rfl ?_
    refine hq_p 3 19 [some (.ref 174), some (.int a1), some (.int a2), some (.int a3)] [.int (10 : Int32), .int a2, .int a3, .ref 211] (fun n h => rfl) ?_
    obtain ⟨x2, hx2, h⟩ := hq_bind h
    refine hq_irem_ rfl hx2 ?_
    obtain ⟨s3, hs3, h⟩ := hq_bind h
    refine hq_iastore rfl rfl List.length_replicate hs3 ?_
    refine hq_p 2 24 [some (.ref 174), some (.int a1), some (.int a2), some (.int a3)] [.int (10 : Int32), .int a2] (fun n h => rfl) ?_
    obtain ⟨x4, hx4, h⟩ := hq_bind h
    refine hq_idiv_ rfl hx4 ?_
    refine hq_p 2 27 [some (.ref 174), some (.int a1), some (.int x4), some (.int a3)] [.ref 174] (fun n h => rfl) ?_
    refine hq_gf (x := .ref 211) rfl rfl rfl rfl rfl ?_
    refine hq_p 1 31 [some (.ref 174), some (.int a1), some (.int x4), some (.int a3)] [.int a3, .ref 211] (fun n h => rfl) ?_
    obtain ⟨x5, hx5, h⟩ := hq_bind h
    refine hq_iaload rfl rfl List.length_replicate hx5 ?_
    refine hq_p 1 33 [some (.ref 174), some (.int a1), some (.int x4), some (.int a3)] [.ref 174, .int x5] (fun n h => rfl) ?_
    refine hq_gf (x := .ref 176) rfl rfl rfl rfl rfl ?_
    refine hq_p 1 37 [some (.ref 174), some (.int a1), some (.int x4), some (.int a3)] [.int (0 : Int32), .ref 176, .int x5] (fun n h => rfl) ?_
    obtain ⟨x6, hx6, h⟩ := hq_bind h
    refine hq_iaload rfl rfl rfl hx6 ?_
    by_cases c7 : x5 < x6
    · rw [if_pos c7] at h
      refine hq_icT rfl (hq_c_lt_T c7) ?_
      refine hq_iinc (a3 + Int32.ofInt (-1)) [some (.ref 174), some (.int a1), some (.int x4), some (.int (a3 + Int32.ofInt (-1)))] rfl rfl rfl rfl ?_
      refine hq_p 1 7 [some (.ref 174), some (.int a1), some (.int x4), some (.int (a3 + Int32.ofInt (-1)))] [] (fun n h => rfl) ?_
      exact e7 a1 x4 (a3 + Int32.ofInt (-1)) s3 h
    · rw [if_neg c7] at h
      refine hq_icF rfl (hq_c_lt_F c7) ?_
      refine hq_p 1 42 [some (.ref 174), some (.int a1), some (.int x4), some (.int a3)] [.int (0 : Int32)] (fun n h => rfl) ?_
      have h := Option.some.inj h
      subst h
      exact ⟨1, rfl⟩
theorem f_X12_reads10_L7_run {xs : List Int32} {n m d g : Nat} {a1 : Int32} {a2 : Int32} {a3 : Int32} {s : hq_S} {y : (Int32 × hq_S)} (hd : 0 ≤ d) (h : f_X12_reads10_L7 n m a1 a2 a3 s = some y) : hq_R (mm_O xs) d mc_X12_reads10 7 [some (.ref 174), some (.int a1), some (.int a2), some (.int a3)] [] s g (some (.int y.1)) y.2 := by
  induction m generalizing a1 a2 a3 s with
  | zero => cases h
  | succ m ih => exact f_X12_reads10_L7_Brun (n := n) hd (fun a1 a2 a3 s h => ih h) h
def f_X12_reads10 (n : Nat) (a1 : Int32) (s : hq_S) : Option (Int32 × hq_S) := f_X12_reads10_L7 n n a1 a1 (hq_gi s 174 60) s
theorem f_X12_reads10_run {xs : List Int32} {n d g : Nat} {a1 : Int32} {s : hq_S} {y : (Int32 × hq_S)} (hd : 0 ≤ d) (h : f_X12_reads10 n a1 s = some y) : hq_R (mm_O xs) d mc_X12_reads10 0 [some (.ref 174), some (.int a1), none, none] [] s g (some (.int y.1)) y.2 := by
  unfold f_X12_reads10 at h
  refine hq_p 3 3 [some (.ref 174), some (.int a1), some (.int a1), none] [.ref 174] (fun n h => rfl) ?_
  refine hq_gf (x := .int (hq_gi s 174 60)) rfl rfl rfl rfl rfl ?_
  refine hq_p 1 7 [some (.ref 174), some (.int a1), some (.int a1), some (.int (hq_gi s 174 60))] [] (fun n h => rfl) ?_
  exact f_X12_reads10_L7_run hd h
def f_X12_isAmong_L2_B (n : Nat) (q2 : Int32 → Int32 → hq_S → Option (Int32 × hq_S)) (a1 : Int32) (a2 : Int32) (s : hq_S) : Option (Int32 × hq_S) := if a2 < (hq_gi s 174 60) then (hq_ld s 211 4 a2).bind fun x2 => if x2 = a1 then some ((1 : Int32), s) else q2 a1 (a2 + (1 : Int32)) s else some ((0 : Int32), s)
def f_X12_isAmong_L2 (n : Nat) (m : Nat) : Int32 → Int32 → hq_S → Option (Int32 × hq_S) := Nat.rec (fun _ _ _ => none) (fun _ q => f_X12_isAmong_L2_B n q) m
theorem f_X12_isAmong_L2_Brun {xs : List Int32} {n d g : Nat} {a1 : Int32} {a2 : Int32} {q2 : Int32 → Int32 → hq_S → Option (Int32 × hq_S)} {s : hq_S} {y : (Int32 × hq_S)} (hd : 0 ≤ d) (e2 : ∀ (a1 : Int32) (a2 : Int32) (s : hq_S), q2 a1 a2 s = some y → hq_R (mm_O xs) d mc_X12_isAmong 2 [some (.ref 174), some (.int a1), some (.int a2)] [] s g (some (.int y.1)) y.2) (h : f_X12_isAmong_L2_B n q2 a1 a2 s = some y) : hq_R (mm_O xs) d mc_X12_isAmong 2 [some (.ref 174), some (.int a1), some (.int a2)] [] s g (some (.int y.1)) y.2 := by
  unfold f_X12_isAmong_L2_B at h
  refine hq_p 2 4 [some (.ref 174), some (.int a1), some (.int a2)] [.ref 174, .int a2] (fun n h => rfl) ?_
  refine hq_gf (x := .int (hq_gi s 174 60)) rfl rfl rfl rfl rfl ?_
  by_cases c1 : a2 < (hq_gi s 174 60)
  · rw [if_pos c1] at h
    refine hq_icF rfl (hq_c_ge_F c1) ?_
    refine hq_p 1 11 [some (.ref 174), some (.int a1), some (.int a2)] [.ref 174] (fun n h => rfl) ?_
    refine hq_gf (x := .ref 211) rfl rfl rfl rfl rfl ?_
    refine hq_p 1 15 [some (.ref 174), some (.int a1), some (.int a2)] [.int a2, .ref 211] (fun n h => rfl) ?_
    obtain ⟨x2, hx2, h⟩ := hq_bind h
    refine hq_iaload rfl rfl List.length_replicate hx2 ?_
    refine hq_p 1 17 [some (.ref 174), some (.int a1), some (.int a2)] [.int a1, .int x2] (fun n h => rfl) ?_
    by_cases c3 : x2 = a1
    · rw [if_pos c3] at h
      refine hq_icF rfl (hq_c_ne_F c3) ?_
      refine hq_p 1 21 [some (.ref 174), some (.int a1), some (.int a2)] [.int (1 : Int32)] (fun n h => rfl) ?_
      have h := Option.some.inj h
      subst h
      exact ⟨1, rfl⟩
    · rw [if_neg c3] at h
      refine hq_icT rfl (hq_c_ne_T c3) ?_
      refine hq_p 2 2 [some (.ref 174), some (.int a1), some (.int (a2 + (1 : Int32)))] [] (fun n h => rfl) ?_
      exact e2 a1 (a2 + (1 : Int32)) s h
  · rw [if_neg c1] at h
    refine hq_icT rfl (hq_c_ge_T c1) ?_
    refine hq_p 1 29 [some (.ref 174), some (.int a1), some (.int a2)] [.int (0 : Int32)] (fun n h => rfl) ?_
    have h := Option.some.inj h
    subst h
    exact ⟨1, rfl⟩
theorem f_X12_isAmong_L2_run {xs : List Int32} {n m d g : Nat} {a1 : Int32} {a2 : Int32} {s : hq_S} {y : (Int32 × hq_S)} (hd : 0 ≤ d) (h : f_X12_isAmong_L2 n m a1 a2 s = some y) : hq_R (mm_O xs) d mc_X12_isAmong 2 [some (.ref 174), some (.int a1), some (.int a2)] [] s g (some (.int y.1)) y.2 := by
  induction m generalizing a1 a2 s with
  | zero => cases h
  | succ m ih => exact f_X12_isAmong_L2_Brun (n := n) hd (fun a1 a2 s h => ih h) h
def f_X12_isAmong (n : Nat) (a1 : Int32) (s : hq_S) : Option (Int32 × hq_S) := f_X12_isAmong_L2 n n a1 (0 : Int32) s
theorem f_X12_isAmong_run {xs : List Int32} {n d g : Nat} {a1 : Int32} {s : hq_S} {y : (Int32 × hq_S)} (hd : 0 ≤ d) (h : f_X12_isAmong n a1 s = some y) : hq_R (mm_O xs) d mc_X12_isAmong 0 [some (.ref 174), some (.int a1), none] [] s g (some (.int y.1)) y.2 := by
  unfold f_X12_isAmong at h
  refine hq_p 2 2 [some (.ref 174), some (.int a1), some (.int (0 : Int32))] [] (fun n h => rfl) ?_
  exact f_X12_isAmong_L2_run hd h
def f_X12_stayOrGo (n : Nat) (a1 : Int32) (s : hq_S) : Option (Int32 × hq_S) := (hq_ld s 206 10 a1).bind fun x1 => some ((x1 ||| ((1 : Int32) <<< (a1 &&& 31))), s)
theorem f_X12_stayOrGo_run {xs : List Int32} {n d g : Nat} {a1 : Int32} {s : hq_S} {y : (Int32 × hq_S)} (hd : 0 ≤ d) (h : f_X12_stayOrGo n a1 s = some y) : hq_R (mm_O xs) d mc_X12_stayOrGo 0 [some (.ref 174), some (.int a1)] [] s g (some (.int y.1)) y.2 := by
  unfold f_X12_stayOrGo at h
  refine hq_p 1 1 [some (.ref 174), some (.int a1)] [.ref 174] (fun n h => rfl) ?_
  refine hq_gf (x := .ref 206) rfl rfl rfl rfl rfl ?_
  refine hq_p 1 5 [some (.ref 174), some (.int a1)] [.int a1, .ref 206] (fun n h => rfl) ?_
  obtain ⟨x1, hx1, h⟩ := hq_bind h
  refine hq_iaload rfl rfl List.length_replicate hx1 ?_
  refine hq_p 4 10 [some (.ref 174), some (.int a1)] [.int (x1 ||| ((1 : Int32) <<< (a1 &&& 31)))] (fun n h => rfl) ?_
  have h := Option.some.inj h
  subst h
  exact ⟨1, rfl⟩
def f_X12_isLost_J76 (n : Nat) (q29 : Int32 → Int32 → Int32 → Int32 → hq_S → Option (Int32 × hq_S)) (a1 : Int32) (a2 : Int32) (a3 : Int32) (a4 : Int32) (s : hq_S) : Option (Int32 × hq_S) := q29 a1 a2 a3 (a4 + (1 : Int32)) s
theorem f_X12_isLost_J76_run {xs : List Int32} {n d g : Nat} {a1 : Int32} {a2 : Int32} {a3 : Int32} {a4 : Int32} {q29 : Int32 → Int32 → Int32 → Int32 → hq_S → Option (Int32 × hq_S)} {s : hq_S} {y : (Int32 × hq_S)} (hd : 1 ≤ d) (e29 : ∀ (a1 : Int32) (a2 : Int32) (a3 : Int32) (a4 : Int32) (s : hq_S), q29 a1 a2 a3 a4 s = some y → hq_R (mm_O xs) d mc_X12_isLost 29 [some (.ref 174), some (.int a1), some (.int a2), some (.int a3), some (.int a4)] [] s g (some (.int y.1)) y.2) (h : f_X12_isLost_J76 n q29 a1 a2 a3 a4 s = some y) : hq_R (mm_O xs) d mc_X12_isLost 76 [some (.ref 174), some (.int a1), some (.int a2), some (.int a3), some (.int a4)] [] s g (some (.int y.1)) y.2 := by
  unfold f_X12_isLost_J76 at h
  refine hq_p 2 29 [some (.ref 174), some (.int a1), some (.int a2), some (.int a3), some (.int (a4 + (1 : Int32)))] [] (fun n h => rfl) ?_
  exact e29 a1 a2 a3 (a4 + (1 : Int32)) s h
def f_X12_isLost_L29_B (n : Nat) (q29 : Int32 → Int32 → Int32 → Int32 → hq_S → Option (Int32 × hq_S)) (a1 : Int32) (a2 : Int32) (a3 : Int32) (a4 : Int32) (s : hq_S) : Option (Int32 × hq_S) := (hq_ld s 176 14 (0 : Int32)).bind fun x5 => if a4 < x5 then if ((a3 >>> (a4 &&& 31)) &&& (1 : Int32)) = (1 : Int32) then (f_X12_isAmong n a4 s).bind fun y8 => if y8.1 = 0 then (hq_ld y8.2 208 10000 ((a1 - a2) + a4)).bind fun x10 => if x10 = (-1 : Int32) then some ((0 : Int32), y8.2) else f_X12_isLost_J76 n q29 a1 a2 a3 a4 y8.2 else f_X12_isLost_J76 n q29 a1 a2 a3 a4 y8.2 else f_X12_isLost_J76 n q29 a1 a2 a3 a4 s else some ((1 : Int32), s)
def f_X12_isLost_L29 (n : Nat) (m : Nat) : Int32 → Int32 → Int32 → Int32 → hq_S → Option (Int32 × hq_S) := Nat.rec (fun _ _ _ _ _ => none) (fun _ q => f_X12_isLost_L29_B n q) m
theorem f_X12_isLost_L29_Brun {xs : List Int32} {n d g : Nat} {a1 : Int32} {a2 : Int32} {a3 : Int32} {a4 : Int32} {q29 : Int32 → Int32 → Int32 → Int32 → hq_S → Option (Int32 × hq_S)} {s : hq_S} {y : (Int32 × hq_S)} (hd : 1 ≤ d) (e29 : ∀ (a1 : Int32) (a2 : Int32) (a3 : Int32) (a4 : Int32) (s : hq_S), q29 a1 a2 a3 a4 s = some y → hq_R (mm_O xs) d mc_X12_isLost 29 [some (.ref 174), some (.int a1), some (.int a2), some (.int a3), some (.int a4)] [] s g (some (.int y.1)) y.2) (h : f_X12_isLost_L29_B n q29 a1 a2 a3 a4 s = some y) : hq_R (mm_O xs) d mc_X12_isLost 29 [some (.ref 174), some (.int a1), some (.int a2), some (.int a3), some (.int a4)] [] s g (some (.int y.1)) y.2 := by
  unfold f_X12_isLost_L29_B at h
  refine hq_p 2 32 [some (.ref 174), some (.int a1), some (.int a2), some (.int a3), some (.int a4)] [.ref 174, .int a4] (fun n h => rfl) ?_
  refine hq_gf (x := .ref 176) rfl rfl rfl rfl rfl ?_
  refine hq_p 1 36 [some (.ref 174), some (.int a1), some (.int a2), some (.int a3), some (.int a4)] [.int (0 : Int32), .ref 176, .int a4] (fun n h => rfl) ?_
  obtain ⟨x5, hx5, h⟩ := hq_bind h
  refine hq_iaload rfl rfl rfl hx5 ?_
  by_cases c6 : a4 < x5
  · rw [if_pos c6] at h
    refine hq_icF rfl (hq_c_ge_F c6) ?_
    refine hq_p 6 47 [some (.ref 174), some (.int a1), some (.int a2), some (.int a3), some (.int a4)] [.int (1 : Int32), .int ((a3 >>> (a4 &&& 31)) &&& (1 : Int32))] (fun n h => rfl) ?_
    by_cases c7 : ((a3 >>> (a4 &&& 31)) &&& (1 : Int32)) = (1 : Int32)
    · rw [if_pos c7] at h
      refine hq_icF rfl (hq_c_ne_F c7) ?_
      refine hq_p 2 53 [some (.ref 174), some (.int a1), some (.int a2), some (.int a3), some (.int a4)] [.int a4, .ref 174] (fun n h => rfl) ?_
      obtain ⟨y8, hy8, h⟩ := hq_bind h
      refine hq_inv rfl rfl (Nat.le_trans (by decide) hd) rfl rfl (hq_rcv rfl rfl) (f_X12_isAmong_run (Nat.le_sub_of_add_le (Nat.le_trans (by decide) hd)) hy8) rfl ?_
      by_cases c9 : y8.1 = 0
      · rw [if_pos c9] at h
        refine hq_izF rfl (hq_c_ne_F c9) ?_
        refine hq_p 1 60 [some (.ref 174), some (.int a1), some (.int a2), some (.int a3), some (.int a4)] [.ref 174] (fun n h => rfl) ?_
        refine hq_gf (x := .ref 208) rfl rfl rfl rfl rfl ?_
        refine hq_p 5 69 [some (.ref 174), some (.int a1), some (.int a2), some (.int a3), some (.int a4)] [.int ((a1 - a2) + a4), .ref 208] (fun n h => rfl) ?_
        obtain ⟨x10, hx10, h⟩ := hq_bind h
        refine hq_iaload rfl rfl List.length_replicate hx10 ?_
        refine hq_icn (-1 : Int32) rfl (by decide) ?_
        by_cases c11 : x10 = (-1 : Int32)
        · rw [if_pos c11] at h
          refine hq_icF rfl (hq_c_ne_F c11) ?_
          refine hq_p 1 75 [some (.ref 174), some (.int a1), some (.int a2), some (.int a3), some (.int a4)] [.int (0 : Int32)] (fun n h => rfl) ?_
          have h := Option.some.inj h
          subst h
          exact ⟨1, rfl⟩
        · rw [if_neg c11] at h
          refine hq_icT rfl (hq_c_ne_T c11) ?_
          exact f_X12_isLost_J76_run hd e29 h
      · rw [if_neg c9] at h
        refine hq_izT rfl (hq_c_ne_T c9) ?_
        exact f_X12_isLost_J76_run hd e29 h
    · rw [if_neg c7] at h
      refine hq_icT rfl (hq_c_ne_T c7) ?_
      exact f_X12_isLost_J76_run hd e29 h
  · rw [if_neg c6] at h
    refine hq_icT rfl (hq_c_ge_T c6) ?_
    refine hq_p 1 83 [some (.ref 174), some (.int a1), some (.int a2), some (.int a3), some (.int a4)] [.int (1 : Int32)] (fun n h => rfl) ?_
    have h := Option.some.inj h
    subst h
    exact ⟨1, rfl⟩
theorem f_X12_isLost_L29_run {xs : List Int32} {n m d g : Nat} {a1 : Int32} {a2 : Int32} {a3 : Int32} {a4 : Int32} {s : hq_S} {y : (Int32 × hq_S)} (hd : 1 ≤ d) (h : f_X12_isLost_L29 n m a1 a2 a3 a4 s = some y) : hq_R (mm_O xs) d mc_X12_isLost 29 [some (.ref 174), some (.int a1), some (.int a2), some (.int a3), some (.int a4)] [] s g (some (.int y.1)) y.2 := by
  induction m generalizing a1 a2 a3 a4 s with
  | zero => cases h
  | succ m ih => exact f_X12_isLost_L29_Brun (n := n) hd (fun a1 a2 a3 a4 s h => ih h) h
def f_X12_isLost (n : Nat) (a1 : Int32) (s : hq_S) : Option (Int32 × hq_S) := (hq_ld s 211 4 (hq_gi s 174 60)).bind fun x1 => (f_X12_isAmong n x1 s).bind fun y2 => if y2.1 = 0 then (f_X12_stayOrGo n x1 y2.2).bind fun y4 => f_X12_isLost_L29 n n a1 x1 y4.1 (0 : Int32) y4.2 else some ((1 : Int32), y2.2)
theorem f_X12_isLost_run {xs : List Int32} {n d g : Nat} {a1 : Int32} {s : hq_S} {y : (Int32 × hq_S)} (hd : 1 ≤ d) (h : f_X12_isLost n a1 s = some y) : hq_R (mm_O xs) d mc_X12_isLost 0 [some (.ref 174), some (.int a1), none, none, none] [] s g (some (.int y.1)) y.2 := by
  unfold f_X12_isLost at h
  refine hq_p 1 1 [some (.ref 174), some (.int a1), none, none, none] [.ref 174] (fun n h => rfl) ?_
  refine hq_gf (x := .ref 211) rfl rfl rfl rfl rfl ?_
  refine hq_p 1 5 [some (.ref 174), some (.int a1), none, none, none] [.ref 174, .ref 211] (fun n h => rfl) ?_
  refine hq_gf (x := .int (hq_gi s 174 60)) rfl rfl rfl rfl rfl ?_
  obtain ⟨x1, hx1, h⟩ := hq_bind h
  refine hq_iaload rfl rfl List.length_replicate hx1 ?_
  refine hq_p 3 12 [some (.ref 174), some (.int a1), some (.int x1), none, none] [.int x1, .ref 174] (fun n h => rfl) ?_
  obtain ⟨y2, hy2, h⟩ := hq_bind h
  refine hq_inv rfl rfl (Nat.le_trans (by decide) hd) rfl rfl (hq_rcv rfl rfl) (f_X12_isAmong_run (Nat.le_sub_of_add_le (Nat.le_trans (by decide) hd)) hy2) rfl ?_
  by_cases c3 : y2.1 = 0
  · rw [if_pos c3] at h
    refine hq_izT rfl (hq_c_eq_T c3) ?_
    refine hq_p 2 22 [some (.ref 174), some (.int a1), some (.int x1), none, none] [.int x1, .ref 174] (fun n h => rfl) ?_
    obtain ⟨y4, hy4, h⟩ := hq_bind h
    refine hq_inv rfl rfl (Nat.le_trans (by decide) hd) rfl rfl (hq_rcv rfl rfl) (f_X12_stayOrGo_run (Nat.le_sub_of_add_le (Nat.le_trans (by decide) hd)) hy4) rfl ?_
    refine hq_p 3 29 [some (.ref 174), some (.int a1), some (.int x1), some (.int y4.1), some (.int (0 : Int32))] [] (fun n h => rfl) ?_
    exact f_X12_isLost_L29_run hd h
  · rw [if_neg c3] at h
    refine hq_izF rfl (hq_c_eq_F c3) ?_
    refine hq_p 1 19 [some (.ref 174), some (.int a1), some (.int x1), none, none] [.int (1 : Int32)] (fun n h => rfl) ?_
    have h := Option.some.inj h
    subst h
    exact ⟨1, rfl⟩
def f_X12_spreads_L139_B (n : Nat) (q139 : Int32 → Int32 → Int32 → hq_S → Option hq_S) (a1 : Int32) (a2 : Int32) (a3 : Int32) (s : hq_S) : Option hq_S := (hq_ld s 212 5 ((hq_gi s 174 60) + (1 : Int32))).bind fun x4 => if a3 < x4 then (hq_ld s 210 10000 a3).bind fun x6 => (hq_st s 209 10000 a3 (hq_nar .boolean x6)).bind fun s7 => q139 a1 a2 (a3 + (1 : Int32)) s7 else some s
def f_X12_spreads_L139 (n : Nat) (m : Nat) : Int32 → Int32 → Int32 → hq_S → Option hq_S := Nat.rec (fun _ _ _ _ => none) (fun _ q => f_X12_spreads_L139_B n q) m
theorem f_X12_spreads_L139_Brun {xs : List Int32} {n d g : Nat} {a1 : Int32} {a2 : Int32} {a3 : Int32} {o4 : Option Value} {o5 : Option Value} {q139 : Int32 → Int32 → Int32 → hq_S → Option hq_S} {s : hq_S} {y : hq_S} (hd : 1 ≤ d) (e139 : ∀ (a1 : Int32) (a2 : Int32) (a3 : Int32) (o4 : Option Value) (o5 : Option Value) (s : hq_S), q139 a1 a2 a3 s = some y → hq_R (mm_O xs) d mc_X12_spreads 139 [some (.ref 174), some (.int a1), some (.int a2), some (.int a3), o4, o5] [] s g none y) (h : f_X12_spreads_L139_B n q139 a1 a2 a3 s = some y) : hq_R (mm_O xs) d mc_X12_spreads 139 [some (.ref 174), some (.int a1), some (.int a2), some (.int a3), o4, o5] [] s g none y := by
  unfold f_X12_spreads_L139_B at h
  refine hq_p 2 141 [some (.ref 174), some (.int a1), some (.int a2), some (.int a3), o4, o5] [.ref 174, .int a3] (fun n h => rfl) ?_
  refine hq_gf (x := .ref 212) rfl rfl rfl rfl rfl ?_
  refine hq_p 1 145 [some (.ref 174), some (.int a1), some (.int a2), some (.int a3), o4, o5] [.ref 174, .ref 212, .int a3] (fun n h => rfl) ?_
  refine hq_gf (x := .int (hq_gi s 174 60)) rfl rfl rfl rfl rfl ?_
  refine hq_p 2 150 [some (.ref 174), some (.int a1), some (.int a2), some (.int a3), o4, o5] [.int ((hq_gi s 174 60) + (1 : Int32)), .ref 212, .int a3] (fun n h => rfl) ?_
  obtain ⟨x4, hx4, h⟩ := hq_bind h
  refine hq_iaload rfl rfl rfl hx4 ?_
  by_cases c5 : a3 < x4
  · rw [if_pos c5] at h
    refine hq_icF rfl (hq_c_ge_F c5) ?_
    refine hq_p 1 155 [some (.ref 174), some (.int a1), some (.int a2), some (.int a3), o4, o5] [.ref 174] (fun n h => rfl) ?_
    refine hq_gf (x := .ref 209) rfl rfl rfl rfl rfl ?_
    refine hq_p 2 160 [some (.ref 174), some (.int a1), some (.int a2), some (.int a3), o4, o5] [.ref 174, .int a3, .ref 209] (fun n h => rfl) ?_
    refine hq_gf (x := .ref 210) rfl rfl rfl rfl rfl ?_
    refine hq_p 1 164 [some (.ref 174), some (.int a1), some (.int a2), some (.int a3), o4, o5] [.int a3, .ref 210, .int a3, .ref 209] (fun n h => rfl) ?_
    obtain ⟨x6, hx6, h⟩ := hq_bind h
    refine hq_baload rfl rfl (by decide) List.length_replicate hx6 ?_
    obtain ⟨s7, hs7, h⟩ := hq_bind h
    refine hq_bastore rfl rfl (by decide) List.length_replicate hs7 ?_
    refine hq_p 2 139 [some (.ref 174), some (.int a1), some (.int a2), some (.int (a3 + (1 : Int32))), o4, o5] [] (fun n h => rfl) ?_
    exact e139 a1 a2 (a3 + (1 : Int32)) _ _ s7 h
  · rw [if_neg c5] at h
    refine hq_icT rfl (hq_c_ge_T c5) ?_
    have h := Option.some.inj h
    subst h
    exact ⟨1, rfl⟩
theorem f_X12_spreads_L139_run {xs : List Int32} {n m d g : Nat} {a1 : Int32} {a2 : Int32} {a3 : Int32} {o4 : Option Value} {o5 : Option Value} {s : hq_S} {y : hq_S} (hd : 1 ≤ d) (h : f_X12_spreads_L139 n m a1 a2 a3 s = some y) : hq_R (mm_O xs) d mc_X12_spreads 139 [some (.ref 174), some (.int a1), some (.int a2), some (.int a3), o4, o5] [] s g none y := by
  induction m generalizing a1 a2 a3 o4 o5 s with
  | zero => cases h
  | succ m ih => exact f_X12_spreads_L139_Brun (n := n) hd (fun a1 a2 a3 o4 o5 s h => ih h) h
def f_X12_spreads_J131 (n : Nat) (q14 : Int32 → Int32 → Int32 → hq_S → Option hq_S) (a1 : Int32) (a2 : Int32) (a3 : Int32) (s : hq_S) : Option hq_S := q14 a1 a2 (a3 + (1 : Int32)) s
theorem f_X12_spreads_J131_run {xs : List Int32} {n d g : Nat} {a1 : Int32} {a2 : Int32} {a3 : Int32} {o4 : Option Value} {o5 : Option Value} {q14 : Int32 → Int32 → Int32 → hq_S → Option hq_S} {s : hq_S} {y : hq_S} (hd : 1 ≤ d) (e14 : ∀ (a1 : Int32) (a2 : Int32) (a3 : Int32) (o4 : Option Value) (o5 : Option Value) (s : hq_S), q14 a1 a2 a3 s = some y → hq_R (mm_O xs) d mc_X12_spreads 14 [some (.ref 174), some (.int a1), some (.int a2), some (.int a3), o4, o5] [] s g none y) (h : f_X12_spreads_J131 n q14 a1 a2 a3 s = some y) : hq_R (mm_O xs) d mc_X12_spreads 131 [some (.ref 174), some (.int a1), some (.int a2), some (.int a3), o4, o5] [] s g none y := by
  unfold f_X12_spreads_J131 at h
  refine hq_p 2 14 [some (.ref 174), some (.int a1), some (.int a2), some (.int (a3 + (1 : Int32))), o4, o5] [] (fun n h => rfl) ?_
  exact e14 a1 a2 (a3 + (1 : Int32)) _ _ s h
def f_X12_spreads_L62_B (n : Nat) (q14 : Int32 → Int32 → Int32 → hq_S → Option hq_S) (q62 : Int32 → Int32 → Int32 → Int32 → Int32 → hq_S → Option hq_S) (a1 : Int32) (a2 : Int32) (a3 : Int32) (a4 : Int32) (a5 : Int32) (s : hq_S) : Option hq_S := (hq_ld s 176 14 (0 : Int32)).bind fun x13 => if a5 < x13 then (hq_ld s 210 10000 a3).bind fun x15 => if x15 = 0 then (if ((a4 >>> (a5 &&& 31)) &&& (1 : Int32)) = (1 : Int32) then (hq_ld s 211 4 a1).bind fun x19 => (hq_ld s 209 10000 (a3 + ((a5 - x19) * a2))).bind fun x20 => if x20 = 0 then some (0 : Int32) else some (1 : Int32) else some (0 : Int32)).bind fun z17 => (hq_st s 210 10000 a3 (hq_nar .boolean z17)).bind fun s22 => q62 a1 a2 a3 a4 (a5 + (1 : Int32)) s22 else f_X12_spreads_J131 n q14 a1 a2 a3 s else f_X12_spreads_J131 n q14 a1 a2 a3 s
def f_X12_spreads_L62 (n : Nat) (q14 : Int32 → Int32 → Int32 → hq_S → Option hq_S) (m : Nat) : Int32 → Int32 → Int32 → Int32 → Int32 → hq_S → Option hq_S := Nat.rec (fun _ _ _ _ _ _ => none) (fun _ q => f_X12_spreads_L62_B n q14 q) m
theorem f_X12_spreads_L62_Brun {xs : List Int32} {n d g : Nat} {a1 : Int32} {a2 : Int32} {a3 : Int32} {a4 : Int32} {a5 : Int32} {q14 : Int32 → Int32 → Int32 → hq_S → Option hq_S} {q62 : Int32 → Int32 → Int32 → Int32 → Int32 → hq_S → Option hq_S} {s : hq_S} {y : hq_S} (hd : 1 ≤ d) (e14 : ∀ (a1 : Int32) (a2 : Int32) (a3 : Int32) (o4 : Option Value) (o5 : Option Value) (s : hq_S), q14 a1 a2 a3 s = some y → hq_R (mm_O xs) d mc_X12_spreads 14 [some (.ref 174), some (.int a1), some (.int a2), some (.int a3), o4, o5] [] s g none y) (e62 : ∀ (a1 : Int32) (a2 : Int32) (a3 : Int32) (a4 : Int32) (a5 : Int32) (s : hq_S), q62 a1 a2 a3 a4 a5 s = some y → hq_R (mm_O xs) d mc_X12_spreads 62 [some (.ref 174), some (.int a1), some (.int a2), some (.int a3), some (.int a4), some (.int a5)] [] s g none y) (h : f_X12_spreads_L62_B n q14 q62 a1 a2 a3 a4 a5 s = some y) : hq_R (mm_O xs) d mc_X12_spreads 62 [some (.ref 174), some (.int a1), some (.int a2), some (.int a3), some (.int a4), some (.int a5)] [] s g none y := by
  unfold f_X12_spreads_L62_B at h
  refine hq_p 2 65 [some (.ref 174), some (.int a1), some (.int a2), some (.int a3), some (.int a4), some (.int a5)] [.ref 174, .int a5] (fun n h => rfl) ?_
  refine hq_gf (x := .ref 176) rfl rfl rfl rfl rfl ?_
  refine hq_p 1 69 [some (.ref 174), some (.int a1), some (.int a2), some (.int a3), some (.int a4), some (.int a5)] [.int (0 : Int32), .ref 176, .int a5] (fun n h => rfl) ?_
  obtain ⟨x13, hx13, h⟩ := hq_bind h
  refine hq_iaload rfl rfl rfl hx13 ?_
  by_cases c14 : a5 < x13
  · rw [if_pos c14] at h
    refine hq_icF rfl (hq_c_ge_F c14) ?_
    refine hq_p 1 74 [some (.ref 174), some (.int a1), some (.int a2), some (.int a3), some (.int a4), some (.int a5)] [.ref 174] (fun n h => rfl) ?_
    refine hq_gf (x := .ref 210) rfl rfl rfl rfl rfl ?_
    refine hq_p 1 78 [some (.ref 174), some (.int a1), some (.int a2), some (.int a3), some (.int a4), some (.int a5)] [.int a3, .ref 210] (fun n h => rfl) ?_
    obtain ⟨x15, hx15, h⟩ := hq_bind h
    refine hq_baload rfl rfl (by decide) List.length_replicate hx15 ?_
    by_cases c16 : x15 = 0
    · rw [if_pos c16] at h
      refine hq_izF rfl (hq_c_ne_F c16) ?_
      refine hq_p 1 83 [some (.ref 174), some (.int a1), some (.int a2), some (.int a3), some (.int a4), some (.int a5)] [.ref 174] (fun n h => rfl) ?_
      refine hq_gf (x := .ref 210) rfl rfl rfl rfl rfl ?_
      refine hq_p 7 95 [some (.ref 174), some (.int a1), some (.int a2), some (.int a3), some (.int a4), some (.int a5)] [.int (1 : Int32), .int ((a4 >>> (a5 &&& 31)) &&& (1 : Int32)), .int a3, .ref 210] (fun n h => rfl) ?_
      obtain ⟨z17, hz17, h⟩ := hq_bind h
      suffices hT : hq_R (mm_O xs) d mc_X12_spreads 124 [some (.ref 174), some (.int a1), some (.int a2), some (.int a3), some (.int a4), some (.int a5)] [.int z17, .int a3, .ref 210] s g none y from by
        clear h
        have h := hz17
        by_cases c18 : ((a4 >>> (a5 &&& 31)) &&& (1 : Int32)) = (1 : Int32)
        · rw [if_pos c18] at h
          refine hq_icF rfl (hq_c_ne_F c18) ?_
          refine hq_p 1 99 [some (.ref 174), some (.int a1), some (.int a2), some (.int a3), some (.int a4), some (.int a5)] [.ref 174, .int a3, .ref 210] (fun n h => rfl) ?_
          refine hq_gf (x := .ref 209) rfl rfl rfl rfl rfl ?_
          refine hq_p 3 106 [some (.ref 174), some (.int a1), some (.int a2), some (.int a3), some (.int a4), some (.int a5)] [.ref 174, .int a5, .int a3, .ref 209, .int a3, .ref 210] (fun n h => rfl) ?_
          refine hq_gf (x := .ref 211) rfl rfl rfl rfl rfl ?_
          refine hq_p 1 110 [some (.ref 174), some (.int a1), some (.int a2), some (.int a3), some (.int a4), some (.int a5)] [.int a1, .ref 211, .int a5, .int a3, .ref 209, .int a3, .ref 210] (fun n h => rfl) ?_
          obtain ⟨x19, hx19, h⟩ := hq_bind h
          refine hq_iaload rfl rfl List.length_replicate hx19 ?_
          refine hq_p 4 115 [some (.ref 174), some (.int a1), some (.int a2), some (.int a3), some (.int a4), some (.int a5)] [.int (a3 + ((a5 - x19) * a2)), .ref 209, .int a3, .ref 210] (fun n h => rfl) ?_
          obtain ⟨x20, hx20, h⟩ := hq_bind h
          refine hq_baload rfl rfl (by decide) List.length_replicate hx20 ?_
          by_cases c21 : x20 = 0
          · rw [if_pos c21] at h
            refine hq_izT rfl (hq_c_eq_T c21) ?_
            refine hq_p 1 124 [some (.ref 174), some (.int a1), some (.int a2), some (.int a3), some (.int a4), some (.int a5)] [.int (0 : Int32), .int a3, .ref 210] (fun n h => rfl) ?_
            cases h
            exact hT
          · rw [if_neg c21] at h
            refine hq_izF rfl (hq_c_eq_F c21) ?_
            refine hq_p 2 124 [some (.ref 174), some (.int a1), some (.int a2), some (.int a3), some (.int a4), some (.int a5)] [.int (1 : Int32), .int a3, .ref 210] (fun n h => rfl) ?_
            cases h
            exact hT
        · rw [if_neg c18] at h
          refine hq_icT rfl (hq_c_ne_T c18) ?_
          refine hq_p 1 124 [some (.ref 174), some (.int a1), some (.int a2), some (.int a3), some (.int a4), some (.int a5)] [.int (0 : Int32), .int a3, .ref 210] (fun n h => rfl) ?_
          cases h
          exact hT
      obtain ⟨s22, hs22, h⟩ := hq_bind h
      refine hq_bastore rfl rfl (by decide) List.length_replicate hs22 ?_
      refine hq_p 2 62 [some (.ref 174), some (.int a1), some (.int a2), some (.int a3), some (.int a4), some (.int (a5 + (1 : Int32)))] [] (fun n h => rfl) ?_
      exact e62 a1 a2 a3 a4 (a5 + (1 : Int32)) s22 h
    · rw [if_neg c16] at h
      refine hq_izT rfl (hq_c_ne_T c16) ?_
      exact f_X12_spreads_J131_run hd e14 h
  · rw [if_neg c14] at h
    refine hq_icT rfl (hq_c_ge_T c14) ?_
    exact f_X12_spreads_J131_run hd e14 h
theorem f_X12_spreads_L62_run {xs : List Int32} {n m d g : Nat} {a1 : Int32} {a2 : Int32} {a3 : Int32} {a4 : Int32} {a5 : Int32} {q14 : Int32 → Int32 → Int32 → hq_S → Option hq_S} {s : hq_S} {y : hq_S} (hd : 1 ≤ d) (e14 : ∀ (a1 : Int32) (a2 : Int32) (a3 : Int32) (o4 : Option Value) (o5 : Option Value) (s : hq_S), q14 a1 a2 a3 s = some y → hq_R (mm_O xs) d mc_X12_spreads 14 [some (.ref 174), some (.int a1), some (.int a2), some (.int a3), o4, o5] [] s g none y) (h : f_X12_spreads_L62 n q14 m a1 a2 a3 a4 a5 s = some y) : hq_R (mm_O xs) d mc_X12_spreads 62 [some (.ref 174), some (.int a1), some (.int a2), some (.int a3), some (.int a4), some (.int a5)] [] s g none y := by
  induction m generalizing a1 a2 a3 a4 a5 s with
  | zero => cases h
  | succ m ih => exact f_X12_spreads_L62_Brun (n := n) hd e14 (fun a1 a2 a3 a4 a5 s h => ih h) h
def f_X12_spreads_L14_B (n : Nat) (q14 : Int32 → Int32 → Int32 → hq_S → Option hq_S) (a1 : Int32) (a2 : Int32) (a3 : Int32) (s : hq_S) : Option hq_S := (hq_ld s 212 5 ((hq_gi s 174 60) + (1 : Int32))).bind fun x2 => if a3 < x2 then (hq_st s 210 10000 a3 (hq_nar .boolean (0 : Int32))).bind fun s8 => (f_X12_reads10 n a3 s8).bind fun y9 => if y9.1 = 0 then f_X12_spreads_J131 n q14 a1 a2 a3 y9.2 else (hq_ld y9.2 211 4 a1).bind fun x11 => (f_X12_stayOrGo n x11 y9.2).bind fun y12 => f_X12_spreads_L62 n q14 n a1 a2 a3 y12.1 (0 : Int32) y12.2 else f_X12_spreads_L139 n n a1 a2 (0 : Int32) s
def f_X12_spreads_L14 (n : Nat) (m : Nat) : Int32 → Int32 → Int32 → hq_S → Option hq_S := Nat.rec (fun _ _ _ _ => none) (fun _ q => f_X12_spreads_L14_B n q) m
theorem f_X12_spreads_L14_Brun {xs : List Int32} {n d g : Nat} {a1 : Int32} {a2 : Int32} {a3 : Int32} {o4 : Option Value} {o5 : Option Value} {q14 : Int32 → Int32 → Int32 → hq_S → Option hq_S} {s : hq_S} {y : hq_S} (hd : 1 ≤ d) (e14 : ∀ (a1 : Int32) (a2 : Int32) (a3 : Int32) (o4 : Option Value) (o5 : Option Value) (s : hq_S), q14 a1 a2 a3 s = some y → hq_R (mm_O xs) d mc_X12_spreads 14 [some (.ref 174), some (.int a1), some (.int a2), some (.int a3), o4, o5] [] s g none y) (h : f_X12_spreads_L14_B n q14 a1 a2 a3 s = some y) : hq_R (mm_O xs) d mc_X12_spreads 14 [some (.ref 174), some (.int a1), some (.int a2), some (.int a3), o4, o5] [] s g none y := by
  unfold f_X12_spreads_L14_B at h
  refine hq_p 2 16 [some (.ref 174), some (.int a1), some (.int a2), some (.int a3), o4, o5] [.ref 174, .int a3] (fun n h => rfl) ?_
  refine hq_gf (x := .ref 212) rfl rfl rfl rfl rfl ?_
  refine hq_p 1 20 [some (.ref 174), some (.int a1), some (.int a2), some (.int a3), o4, o5] [.ref 174, .ref 212, .int a3] (fun n h => rfl) ?_
  refine hq_gf (x := .int (hq_gi s 174 60)) rfl rfl rfl rfl rfl ?_
  refine hq_p 2 25 [some (.ref 174), some (.int a1), some (.int a2), some (.int a3), o4, o5] [.int ((hq_gi s 174 60) + (1 : Int32)), .ref 212, .int a3] (fun n h => rfl) ?_
  obtain ⟨x2, hx2, h⟩ := hq_bind h
  refine hq_iaload rfl rfl rfl hx2 ?_
  by_cases c3 : a3 < x2
  · rw [if_pos c3] at h
    refine hq_icF rfl (hq_c_ge_F c3) ?_
    refine hq_p 1 30 [some (.ref 174), some (.int a1), some (.int a2), some (.int a3), o4, o5] [.ref 174] (fun n h => rfl) ?_
    refine hq_gf (x := .ref 210) rfl rfl rfl rfl rfl ?_
    refine hq_p 2 35 [some (.ref 174), some (.int a1), some (.int a2), some (.int a3), o4, o5] [.int (0 : Int32), .int a3, .ref 210] (fun n h => rfl) ?_
    obtain ⟨s8, hs8, h⟩ := hq_bind h
    refine hq_bastore rfl rfl (by decide) List.length_replicate hs8 ?_
    refine hq_p 2 38 [some (.ref 174), some (.int a1), some (.int a2), some (.int a3), o4, o5] [.int a3, .ref 174] (fun n h => rfl) ?_
    obtain ⟨y9, hy9, h⟩ := hq_bind h
    refine hq_inv rfl rfl (Nat.le_trans (by decide) hd) rfl rfl (hq_rcv rfl rfl) (f_X12_reads10_run (Nat.le_sub_of_add_le (Nat.le_trans (by decide) hd)) hy9) rfl ?_
    by_cases c10 : y9.1 = 0
    · rw [if_pos c10] at h
      refine hq_izF rfl (hq_c_ne_F c10) ?_
      refine hq_p 1 131 [some (.ref 174), some (.int a1), some (.int a2), some (.int a3), o4, o5] [] (fun n h => rfl) ?_
      exact f_X12_spreads_J131_run hd e14 h
    · rw [if_neg c10] at h
      refine hq_izT rfl (hq_c_ne_T c10) ?_
      refine hq_p 2 49 [some (.ref 174), some (.int a1), some (.int a2), some (.int a3), o4, o5] [.ref 174, .ref 174] (fun n h => rfl) ?_
      refine hq_gf (x := .ref 211) rfl rfl rfl rfl rfl ?_
      refine hq_p 1 53 [some (.ref 174), some (.int a1), some (.int a2), some (.int a3), o4, o5] [.int a1, .ref 211, .ref 174] (fun n h => rfl) ?_
      obtain ⟨x11, hx11, h⟩ := hq_bind h
      refine hq_iaload rfl rfl List.length_replicate hx11 ?_
      obtain ⟨y12, hy12, h⟩ := hq_bind h
      refine hq_inv rfl rfl (Nat.le_trans (by decide) hd) rfl rfl (hq_rcv rfl rfl) (f_X12_stayOrGo_run (Nat.le_sub_of_add_le (Nat.le_trans (by decide) hd)) hy12) rfl ?_
      refine hq_p 3 62 [some (.ref 174), some (.int a1), some (.int a2), some (.int a3), some (.int y12.1), some (.int (0 : Int32))] [] (fun n h => rfl) ?_
      exact f_X12_spreads_L62_run hd e14 h
  · rw [if_neg c3] at h
    refine hq_icT rfl (hq_c_ge_T c3) ?_
    refine hq_p 2 139 [some (.ref 174), some (.int a1), some (.int a2), some (.int (0 : Int32)), o4, o5] [] (fun n h => rfl) ?_
    exact f_X12_spreads_L139_run hd h
theorem f_X12_spreads_L14_run {xs : List Int32} {n m d g : Nat} {a1 : Int32} {a2 : Int32} {a3 : Int32} {o4 : Option Value} {o5 : Option Value} {s : hq_S} {y : hq_S} (hd : 1 ≤ d) (h : f_X12_spreads_L14 n m a1 a2 a3 s = some y) : hq_R (mm_O xs) d mc_X12_spreads 14 [some (.ref 174), some (.int a1), some (.int a2), some (.int a3), o4, o5] [] s g none y := by
  induction m generalizing a1 a2 a3 o4 o5 s with
  | zero => cases h
  | succ m ih => exact f_X12_spreads_L14_Brun (n := n) hd (fun a1 a2 a3 o4 o5 s h => ih h) h
def f_X12_spreads (n : Nat) (a1 : Int32) (s : hq_S) : Option hq_S := (hq_ld s 212 5 ((hq_gi s 174 60) - a1)).bind fun x1 => f_X12_spreads_L14 n n a1 x1 (0 : Int32) s
theorem f_X12_spreads_run {xs : List Int32} {n d g : Nat} {a1 : Int32} {s : hq_S} {y : hq_S} (hd : 1 ≤ d) (h : f_X12_spreads n a1 s = some y) : hq_R (mm_O xs) d mc_X12_spreads 0 [some (.ref 174), some (.int a1), none, none, none, none] [] s g none y := by
  unfold f_X12_spreads at h
  refine hq_p 1 1 [some (.ref 174), some (.int a1), none, none, none, none] [.ref 174] (fun n h => rfl) ?_
  refine hq_gf (x := .ref 212) rfl rfl rfl rfl rfl ?_
  refine hq_p 1 5 [some (.ref 174), some (.int a1), none, none, none, none] [.ref 174, .ref 212] (fun n h => rfl) ?_
  refine hq_gf (x := .int (hq_gi s 174 60)) rfl rfl rfl rfl rfl ?_
  refine hq_p 2 10 [some (.ref 174), some (.int a1), none, none, none, none] [.int ((hq_gi s 174 60) - a1), .ref 212] (fun n h => rfl) ?_
  obtain ⟨x1, hx1, h⟩ := hq_bind h
  refine hq_iaload rfl rfl rfl hx1 ?_
  refine hq_p 3 14 [some (.ref 174), some (.int a1), some (.int x1), some (.int (0 : Int32)), none, none] [] (fun n h => rfl) ?_
  exact f_X12_spreads_L14_run hd h
def f_X12_laysChase_L151_B (n : Nat) (q69 : Int32 → Int32 → Int32 → hq_S → Option hq_S) (q151 : Int32 → Int32 → Int32 → Int32 → hq_S → Option hq_S) (a1 : Int32) (a2 : Int32) (a3 : Int32) (a4 : Int32) (s : hq_S) : Option hq_S := (hq_ld s 212 5 (a1 + (1 : Int32))).bind fun x10 => if a4 < x10 then (hq_ld s 209 10000 a4).bind fun x12 => (if x12 = 0 then some (a2, s) else (hq_ld s 208 10000 a4).bind fun x15 => if x15 = (-1 : Int32) then (hq_st s 208 10000 a4 a3).bind fun s17 => some ((1 : Int32), s17) else some (a2, s)).bind fun z13 => q151 a1 z13.1 a3 (a4 + (1 : Int32)) z13.2 else q69 a1 a2 (a3 + (1 : Int32)) s
def f_X12_laysChase_L151 (n : Nat) (q69 : Int32 → Int32 → Int32 → hq_S → Option hq_S) (m : Nat) : Int32 → Int32 → Int32 → Int32 → hq_S → Option hq_S := Nat.rec (fun _ _ _ _ _ => none) (fun _ q => f_X12_laysChase_L151_B n q69 q) m
theorem f_X12_laysChase_L151_Brun {xs : List Int32} {n d g : Nat} {a1 : Int32} {a2 : Int32} {a3 : Int32} {a4 : Int32} {q69 : Int32 → Int32 → Int32 → hq_S → Option hq_S} {q151 : Int32 → Int32 → Int32 → Int32 → hq_S → Option hq_S} {s : hq_S} {y : hq_S} (hd : 2 ≤ d) (e69 : ∀ (a1 : Int32) (a2 : Int32) (a3 : Int32) (o4 : Option Value) (s : hq_S), q69 a1 a2 a3 s = some y → hq_R (mm_O xs) d mc_X12_laysChase 69 [some (.ref 174), some (.int a1), some (.int a2), some (.int a3), o4] [] s g none y) (e151 : ∀ (a1 : Int32) (a2 : Int32) (a3 : Int32) (a4 : Int32) (s : hq_S), q151 a1 a2 a3 a4 s = some y → hq_R (mm_O xs) d mc_X12_laysChase 151 [some (.ref 174), some (.int a1), some (.int a2), some (.int a3), some (.int a4)] [] s g none y) (h : f_X12_laysChase_L151_B n q69 q151 a1 a2 a3 a4 s = some y) : hq_R (mm_O xs) d mc_X12_laysChase 151 [some (.ref 174), some (.int a1), some (.int a2), some (.int a3), some (.int a4)] [] s g none y := by
  unfold f_X12_laysChase_L151_B at h
  refine hq_p 2 154 [some (.ref 174), some (.int a1), some (.int a2), some (.int a3), some (.int a4)] [.ref 174, .int a4] (fun n h => rfl) ?_
  refine hq_gf (x := .ref 212) rfl rfl rfl rfl rfl ?_
  refine hq_p 3 160 [some (.ref 174), some (.int a1), some (.int a2), some (.int a3), some (.int a4)] [.int (a1 + (1 : Int32)), .ref 212, .int a4] (fun n h => rfl) ?_
  obtain ⟨x10, hx10, h⟩ := hq_bind h
  refine hq_iaload rfl rfl rfl hx10 ?_
  by_cases c11 : a4 < x10
  · rw [if_pos c11] at h
    refine hq_icF rfl (hq_c_ge_F c11) ?_
    refine hq_p 1 165 [some (.ref 174), some (.int a1), some (.int a2), some (.int a3), some (.int a4)] [.ref 174] (fun n h => rfl) ?_
    refine hq_gf (x := .ref 209) rfl rfl rfl rfl rfl ?_
    refine hq_p 1 170 [some (.ref 174), some (.int a1), some (.int a2), some (.int a3), some (.int a4)] [.int a4, .ref 209] (fun n h => rfl) ?_
    obtain ⟨x12, hx12, h⟩ := hq_bind h
    refine hq_baload rfl rfl (by decide) List.length_replicate hx12 ?_
    obtain ⟨z13, hz13, h⟩ := hq_bind h
    suffices hT : hq_R (mm_O xs) d mc_X12_laysChase 198 [some (.ref 174), some (.int a1), some (.int z13.1), some (.int a3), some (.int a4)] [] z13.2 g none y from by
      clear h
      have h := hz13
      by_cases c14 : x12 = 0
      · rw [if_pos c14] at h
        refine hq_izT rfl (hq_c_eq_T c14) ?_
        cases h
        exact hT
      · rw [if_neg c14] at h
        refine hq_izF rfl (hq_c_eq_F c14) ?_
        refine hq_p 1 175 [some (.ref 174), some (.int a1), some (.int a2), some (.int a3), some (.int a4)] [.ref 174] (fun n h => rfl) ?_
        refine hq_gf (x := .ref 208) rfl rfl rfl rfl rfl ?_
        refine hq_p 1 180 [some (.ref 174), some (.int a1), some (.int a2), some (.int a3), some (.int a4)] [.int a4, .ref 208] (fun n h => rfl) ?_
        obtain ⟨x15, hx15, h⟩ := hq_bind h
        refine hq_iaload rfl rfl List.length_replicate hx15 ?_
        refine hq_icn (-1 : Int32) rfl (by decide) ?_
        by_cases c16 : x15 = (-1 : Int32)
        · rw [if_pos c16] at h
          refine hq_icT rfl (hq_c_eq_T c16) ?_
          refine hq_p 1 189 [some (.ref 174), some (.int a1), some (.int a2), some (.int a3), some (.int a4)] [.ref 174] (fun n h => rfl) ?_
          refine hq_gf (x := .ref 208) rfl rfl rfl rfl rfl ?_
          refine hq_p 2 195 [some (.ref 174), some (.int a1), some (.int a2), some (.int a3), some (.int a4)] [.int a3, .int a4, .ref 208] (fun n h => rfl) ?_
          obtain ⟨s17, hs17, h⟩ := hq_bind h
          refine hq_iastore rfl rfl List.length_replicate hs17 ?_
          refine hq_p 2 198 [some (.ref 174), some (.int a1), some (.int (1 : Int32)), some (.int a3), some (.int a4)] [] (fun n h => rfl) ?_
          cases h
          exact hT
        · rw [if_neg c16] at h
          refine hq_icF rfl (hq_c_eq_F c16) ?_
          refine hq_p 1 198 [some (.ref 174), some (.int a1), some (.int a2), some (.int a3), some (.int a4)] [] (fun n h => rfl) ?_
          cases h
          exact hT
    refine hq_p 2 151 [some (.ref 174), some (.int a1), some (.int z13.1), some (.int a3), some (.int (a4 + (1 : Int32)))] [] (fun n h => rfl) ?_
    exact e151 a1 z13.1 a3 (a4 + (1 : Int32)) z13.2 h
  · rw [if_neg c11] at h
    refine hq_icT rfl (hq_c_ge_T c11) ?_
    refine hq_p 2 69 [some (.ref 174), some (.int a1), some (.int a2), some (.int (a3 + (1 : Int32))), some (.int a4)] [] (fun n h => rfl) ?_
    exact e69 a1 a2 (a3 + (1 : Int32)) _ s h
theorem f_X12_laysChase_L151_run {xs : List Int32} {n m d g : Nat} {a1 : Int32} {a2 : Int32} {a3 : Int32} {a4 : Int32} {q69 : Int32 → Int32 → Int32 → hq_S → Option hq_S} {s : hq_S} {y : hq_S} (hd : 2 ≤ d) (e69 : ∀ (a1 : Int32) (a2 : Int32) (a3 : Int32) (o4 : Option Value) (s : hq_S), q69 a1 a2 a3 s = some y → hq_R (mm_O xs) d mc_X12_laysChase 69 [some (.ref 174), some (.int a1), some (.int a2), some (.int a3), o4] [] s g none y) (h : f_X12_laysChase_L151 n q69 m a1 a2 a3 a4 s = some y) : hq_R (mm_O xs) d mc_X12_laysChase 151 [some (.ref 174), some (.int a1), some (.int a2), some (.int a3), some (.int a4)] [] s g none y := by
  induction m generalizing a1 a2 a3 a4 s with
  | zero => cases h
  | succ m ih => exact f_X12_laysChase_L151_Brun (n := n) hd e69 (fun a1 a2 a3 a4 s h => ih h) h
def f_X12_laysChase_L130_B (n : Nat) (q69 : Int32 → Int32 → Int32 → hq_S → Option hq_S) (q130 : Int32 → Int32 → Int32 → Int32 → hq_S → Option hq_S) (a1 : Int32) (a2 : Int32) (a3 : Int32) (a4 : Int32) (s : hq_S) : Option hq_S := if a4 < a1 then (f_X12_spreads n a4 s).bind fun s18 => q130 a1 a2 a3 (a4 + (1 : Int32)) s18 else f_X12_laysChase_L151 n q69 n a1 a2 a3 (0 : Int32) s
def f_X12_laysChase_L130 (n : Nat) (q69 : Int32 → Int32 → Int32 → hq_S → Option hq_S) (m : Nat) : Int32 → Int32 → Int32 → Int32 → hq_S → Option hq_S := Nat.rec (fun _ _ _ _ _ => none) (fun _ q => f_X12_laysChase_L130_B n q69 q) m
theorem f_X12_laysChase_L130_Brun {xs : List Int32} {n d g : Nat} {a1 : Int32} {a2 : Int32} {a3 : Int32} {a4 : Int32} {q69 : Int32 → Int32 → Int32 → hq_S → Option hq_S} {q130 : Int32 → Int32 → Int32 → Int32 → hq_S → Option hq_S} {s : hq_S} {y : hq_S} (hd : 2 ≤ d) (e69 : ∀ (a1 : Int32) (a2 : Int32) (a3 : Int32) (o4 : Option Value) (s : hq_S), q69 a1 a2 a3 s = some y → hq_R (mm_O xs) d mc_X12_laysChase 69 [some (.ref 174), some (.int a1), some (.int a2), some (.int a3), o4] [] s g none y) (e130 : ∀ (a1 : Int32) (a2 : Int32) (a3 : Int32) (a4 : Int32) (s : hq_S), q130 a1 a2 a3 a4 s = some y → hq_R (mm_O xs) d mc_X12_laysChase 130 [some (.ref 174), some (.int a1), some (.int a2), some (.int a3), some (.int a4)] [] s g none y) (h : f_X12_laysChase_L130_B n q69 q130 a1 a2 a3 a4 s = some y) : hq_R (mm_O xs) d mc_X12_laysChase 130 [some (.ref 174), some (.int a1), some (.int a2), some (.int a3), some (.int a4)] [] s g none y := by
  unfold f_X12_laysChase_L130_B at h
  refine hq_p 2 133 [some (.ref 174), some (.int a1), some (.int a2), some (.int a3), some (.int a4)] [.int a1, .int a4] (fun n h => rfl) ?_
  by_cases c9 : a4 < a1
  · rw [if_pos c9] at h
    refine hq_icF rfl (hq_c_ge_F c9) ?_
    refine hq_p 2 139 [some (.ref 174), some (.int a1), some (.int a2), some (.int a3), some (.int a4)] [.int a4, .ref 174] (fun n h => rfl) ?_
    obtain ⟨s18, hs18, h⟩ := hq_bind h
    refine hq_inv rfl rfl (Nat.le_trans (by decide) hd) rfl rfl (hq_rcv rfl rfl) (f_X12_spreads_run (Nat.le_sub_of_add_le (Nat.le_trans (by decide) hd)) hs18) rfl ?_
    refine hq_p 2 130 [some (.ref 174), some (.int a1), some (.int a2), some (.int a3), some (.int (a4 + (1 : Int32)))] [] (fun n h => rfl) ?_
    exact e130 a1 a2 a3 (a4 + (1 : Int32)) s18 h
  · rw [if_neg c9] at h
    refine hq_icT rfl (hq_c_ge_T c9) ?_
    refine hq_p 2 151 [some (.ref 174), some (.int a1), some (.int a2), some (.int a3), some (.int (0 : Int32))] [] (fun n h => rfl) ?_
    exact f_X12_laysChase_L151_run hd e69 h
theorem f_X12_laysChase_L130_run {xs : List Int32} {n m d g : Nat} {a1 : Int32} {a2 : Int32} {a3 : Int32} {a4 : Int32} {q69 : Int32 → Int32 → Int32 → hq_S → Option hq_S} {s : hq_S} {y : hq_S} (hd : 2 ≤ d) (e69 : ∀ (a1 : Int32) (a2 : Int32) (a3 : Int32) (o4 : Option Value) (s : hq_S), q69 a1 a2 a3 s = some y → hq_R (mm_O xs) d mc_X12_laysChase 69 [some (.ref 174), some (.int a1), some (.int a2), some (.int a3), o4] [] s g none y) (h : f_X12_laysChase_L130 n q69 m a1 a2 a3 a4 s = some y) : hq_R (mm_O xs) d mc_X12_laysChase 130 [some (.ref 174), some (.int a1), some (.int a2), some (.int a3), some (.int a4)] [] s g none y := by
  induction m generalizing a1 a2 a3 a4 s with
  | zero => cases h
  | succ m ih => exact f_X12_laysChase_L130_Brun (n := n) hd e69 (fun a1 a2 a3 a4 s h => ih h) h
def f_X12_laysChase_L78_B (n : Nat) (q69 : Int32 → Int32 → Int32 → hq_S → Option hq_S) (q78 : Int32 → Int32 → Int32 → Int32 → hq_S → Option hq_S) (a1 : Int32) (a2 : Int32) (a3 : Int32) (a4 : Int32) (s : hq_S) : Option hq_S := (hq_ld s 212 5 (a1 + (1 : Int32))).bind fun x7 => if a4 < x7 then (f_X12_reads10 n a4 s).bind fun y19 => (if y19.1 = 0 then some ((0 : Int32), y19.2) else (f_X12_isLost n a4 y19.2).bind fun y22 => if y22.1 = 0 then some ((0 : Int32), y22.2) else some ((1 : Int32), y22.2)).bind fun z20 => (hq_st z20.2 209 10000 a4 (hq_nar .boolean z20.1)).bind fun s24 => q78 a1 a2 a3 (a4 + (1 : Int32)) s24 else f_X12_laysChase_L130 n q69 n a1 a2 a3 (0 : Int32) s
def f_X12_laysChase_L78 (n : Nat) (q69 : Int32 → Int32 → Int32 → hq_S → Option hq_S) (m : Nat) : Int32 → Int32 → Int32 → Int32 → hq_S → Option hq_S := Nat.rec (fun _ _ _ _ _ => none) (fun _ q => f_X12_laysChase_L78_B n q69 q) m
theorem f_X12_laysChase_L78_Brun {xs : List Int32} {n d g : Nat} {a1 : Int32} {a2 : Int32} {a3 : Int32} {a4 : Int32} {q69 : Int32 → Int32 → Int32 → hq_S → Option hq_S} {q78 : Int32 → Int32 → Int32 → Int32 → hq_S → Option hq_S} {s : hq_S} {y : hq_S} (hd : 2 ≤ d) (e69 : ∀ (a1 : Int32) (a2 : Int32) (a3 : Int32) (o4 : Option Value) (s : hq_S), q69 a1 a2 a3 s = some y → hq_R (mm_O xs) d mc_X12_laysChase 69 [some (.ref 174), some (.int a1), some (.int a2), some (.int a3), o4] [] s g none y) (e78 : ∀ (a1 : Int32) (a2 : Int32) (a3 : Int32) (a4 : Int32) (s : hq_S), q78 a1 a2 a3 a4 s = some y → hq_R (mm_O xs) d mc_X12_laysChase 78 [some (.ref 174), some (.int a1), some (.int a2), some (.int a3), some (.int a4)] [] s g none y) (h : f_X12_laysChase_L78_B n q69 q78 a1 a2 a3 a4 s = some y) : hq_R (mm_O xs) d mc_X12_laysChase 78 [some (.ref 174), some (.int a1), some (.int a2), some (.int a3), some (.int a4)] [] s g none y := by
  unfold f_X12_laysChase_L78_B at h
  refine hq_p 2 81 [some (.ref 174), some (.int a1), some (.int a2), some (.int a3), some (.int a4)] [.ref 174, .int a4] (fun n h => rfl) ?_
  refine hq_gf (x := .ref 212) rfl rfl rfl rfl rfl ?_
  refine hq_p 3 87 [some (.ref 174), some (.int a1), some (.int a2), some (.int a3), some (.int a4)] [.int (a1 + (1 : Int32)), .ref 212, .int a4] (fun n h => rfl) ?_
  obtain ⟨x7, hx7, h⟩ := hq_bind h
  refine hq_iaload rfl rfl rfl hx7 ?_
  by_cases c8 : a4 < x7
  · rw [if_pos c8] at h
    refine hq_icF rfl (hq_c_ge_F c8) ?_
    refine hq_p 1 92 [some (.ref 174), some (.int a1), some (.int a2), some (.int a3), some (.int a4)] [.ref 174] (fun n h => rfl) ?_
    refine hq_gf (x := .ref 209) rfl rfl rfl rfl rfl ?_
    refine hq_p 3 100 [some (.ref 174), some (.int a1), some (.int a2), some (.int a3), some (.int a4)] [.int a4, .ref 174, .int a4, .ref 209] (fun n h => rfl) ?_
    obtain ⟨y19, hy19, h⟩ := hq_bind h
    refine hq_inv rfl rfl (Nat.le_trans (by decide) hd) rfl rfl (hq_rcv rfl rfl) (f_X12_reads10_run (Nat.le_sub_of_add_le (Nat.le_trans (by decide) hd)) hy19) rfl ?_
    obtain ⟨z20, hz20, h⟩ := hq_bind h
    suffices hT : hq_R (mm_O xs) d mc_X12_laysChase 120 [some (.ref 174), some (.int a1), some (.int a2), some (.int a3), some (.int a4)] [.int z20.1, .int a4, .ref 209] z20.2 g none y from by
      clear h
      have h := hz20
      by_cases c21 : y19.1 = 0
      · rw [if_pos c21] at h
        refine hq_izT rfl (hq_c_eq_T c21) ?_
        refine hq_p 1 120 [some (.ref 174), some (.int a1), some (.int a2), some (.int a3), some (.int a4)] [.int (0 : Int32), .int a4, .ref 209] (fun n h => rfl) ?_
        cases h
        exact hT
      · rw [if_neg c21] at h
        refine hq_izF rfl (hq_c_eq_F c21) ?_
        refine hq_p 2 109 [some (.ref 174), some (.int a1), some (.int a2), some (.int a3), some (.int a4)] [.int a4, .ref 174, .int a4, .ref 209] (fun n h => rfl) ?_
        obtain ⟨y22, hy22, h⟩ := hq_bind h
        refine hq_inv rfl rfl (Nat.le_trans (by decide) hd) rfl rfl (hq_rcv rfl rfl) (f_X12_isLost_run (Nat.le_sub_of_add_le (Nat.le_trans (by decide) hd)) hy22) rfl ?_
        by_cases c23 : y22.1 = 0
        · rw [if_pos c23] at h
          refine hq_izT rfl (hq_c_eq_T c23) ?_
          refine hq_p 1 120 [some (.ref 174), some (.int a1), some (.int a2), some (.int a3), some (.int a4)] [.int (0 : Int32), .int a4, .ref 209] (fun n h => rfl) ?_
          cases h
          exact hT
        · rw [if_neg c23] at h
          refine hq_izF rfl (hq_c_eq_F c23) ?_
          refine hq_p 2 120 [some (.ref 174), some (.int a1), some (.int a2), some (.int a3), some (.int a4)] [.int (1 : Int32), .int a4, .ref 209] (fun n h => rfl) ?_
          cases h
          exact hT
    obtain ⟨s24, hs24, h⟩ := hq_bind h
    refine hq_bastore rfl rfl (by decide) List.length_replicate hs24 ?_
    refine hq_p 2 78 [some (.ref 174), some (.int a1), some (.int a2), some (.int a3), some (.int (a4 + (1 : Int32)))] [] (fun n h => rfl) ?_
    exact e78 a1 a2 a3 (a4 + (1 : Int32)) s24 h
  · rw [if_neg c8] at h
    refine hq_icT rfl (hq_c_ge_T c8) ?_
    refine hq_p 2 130 [some (.ref 174), some (.int a1), some (.int a2), some (.int a3), some (.int (0 : Int32))] [] (fun n h => rfl) ?_
    exact f_X12_laysChase_L130_run hd e69 h
theorem f_X12_laysChase_L78_run {xs : List Int32} {n m d g : Nat} {a1 : Int32} {a2 : Int32} {a3 : Int32} {a4 : Int32} {q69 : Int32 → Int32 → Int32 → hq_S → Option hq_S} {s : hq_S} {y : hq_S} (hd : 2 ≤ d) (e69 : ∀ (a1 : Int32) (a2 : Int32) (a3 : Int32) (o4 : Option Value) (s : hq_S), q69 a1 a2 a3 s = some y → hq_R (mm_O xs) d mc_X12_laysChase 69 [some (.ref 174), some (.int a1), some (.int a2), some (.int a3), o4] [] s g none y) (h : f_X12_laysChase_L78 n q69 m a1 a2 a3 a4 s = some y) : hq_R (mm_O xs) d mc_X12_laysChase 78 [some (.ref 174), some (.int a1), some (.int a2), some (.int a3), some (.int a4)] [] s g none y := by
  induction m generalizing a1 a2 a3 a4 s with
  | zero => cases h
  | succ m ih => exact f_X12_laysChase_L78_Brun (n := n) hd e69 (fun a1 a2 a3 a4 s h => ih h) h
def f_X12_laysChase_L69_B (n : Nat) (q69 : Int32 → Int32 → Int32 → hq_S → Option hq_S) (a1 : Int32) (a2 : Int32) (a3 : Int32) (s : hq_S) : Option hq_S := if a2 = 0 then some s else f_X12_laysChase_L78 n q69 n a1 (0 : Int32) a3 (0 : Int32) s
def f_X12_laysChase_L69 (n : Nat) (m : Nat) : Int32 → Int32 → Int32 → hq_S → Option hq_S := Nat.rec (fun _ _ _ _ => none) (fun _ q => f_X12_laysChase_L69_B n q) m
theorem f_X12_laysChase_L69_Brun {xs : List Int32} {n d g : Nat} {a1 : Int32} {a2 : Int32} {a3 : Int32} {o4 : Option Value} {q69 : Int32 → Int32 → Int32 → hq_S → Option hq_S} {s : hq_S} {y : hq_S} (hd : 2 ≤ d) (e69 : ∀ (a1 : Int32) (a2 : Int32) (a3 : Int32) (o4 : Option Value) (s : hq_S), q69 a1 a2 a3 s = some y → hq_R (mm_O xs) d mc_X12_laysChase 69 [some (.ref 174), some (.int a1), some (.int a2), some (.int a3), o4] [] s g none y) (h : f_X12_laysChase_L69_B n q69 a1 a2 a3 s = some y) : hq_R (mm_O xs) d mc_X12_laysChase 69 [some (.ref 174), some (.int a1), some (.int a2), some (.int a3), o4] [] s g none y := by
  unfold f_X12_laysChase_L69_B at h
  refine hq_p 1 70 [some (.ref 174), some (.int a1), some (.int a2), some (.int a3), o4] [.int a2] (fun n h => rfl) ?_
  by_cases c6 : a2 = 0
  · rw [if_pos c6] at h
    refine hq_izT rfl (hq_c_eq_T c6) ?_
    have h := Option.some.inj h
    subst h
    exact ⟨1, rfl⟩
  · rw [if_neg c6] at h
    refine hq_izF rfl (hq_c_eq_F c6) ?_
    refine hq_p 4 78 [some (.ref 174), some (.int a1), some (.int (0 : Int32)), some (.int a3), some (.int (0 : Int32))] [] (fun n h => rfl) ?_
    exact f_X12_laysChase_L78_run hd e69 h
theorem f_X12_laysChase_L69_run {xs : List Int32} {n m d g : Nat} {a1 : Int32} {a2 : Int32} {a3 : Int32} {o4 : Option Value} {s : hq_S} {y : hq_S} (hd : 2 ≤ d) (h : f_X12_laysChase_L69 n m a1 a2 a3 s = some y) : hq_R (mm_O xs) d mc_X12_laysChase 69 [some (.ref 174), some (.int a1), some (.int a2), some (.int a3), o4] [] s g none y := by
  induction m generalizing a1 a2 a3 o4 s with
  | zero => cases h
  | succ m ih => exact f_X12_laysChase_L69_Brun (n := n) hd (fun a1 a2 a3 o4 s h => ih h) h
def f_X12_laysChase_L7_B (n : Nat) (q7 : Int32 → Int32 → hq_S → Option hq_S) (a1 : Int32) (a2 : Int32) (s : hq_S) : Option hq_S := (hq_ld s 212 5 (a1 + (1 : Int32))).bind fun x2 => if a2 < x2 then (f_X12_reads10 n a2 s).bind fun y25 => (if y25.1 = 0 then some ((-1 : Int32), y25.2) else (hq_ld y25.2 211 4 a1).bind fun x28 => (f_X12_isAmong n x28 y25.2).bind fun y29 => if y29.1 = 0 then some ((-1 : Int32), y29.2) else some ((0 : Int32), y29.2)).bind fun z26 => (hq_st z26.2 208 10000 a2 z26.1).bind fun s31 => q7 a1 (a2 + (1 : Int32)) s31 else (if 0 < a1 then some (1 : Int32) else some (0 : Int32)).bind fun z4 => f_X12_laysChase_L69 n n a1 z4 (1 : Int32) s
def f_X12_laysChase_L7 (n : Nat) (m : Nat) : Int32 → Int32 → hq_S → Option hq_S := Nat.rec (fun _ _ _ => none) (fun _ q => f_X12_laysChase_L7_B n q) m
theorem f_X12_laysChase_L7_Brun {xs : List Int32} {n d g : Nat} {a1 : Int32} {a2 : Int32} {q7 : Int32 → Int32 → hq_S → Option hq_S} {s : hq_S} {y : hq_S} (hd : 2 ≤ d) (e7 : ∀ (a1 : Int32) (a2 : Int32) (s : hq_S), q7 a1 a2 s = some y → hq_R (mm_O xs) d mc_X12_laysChase 7 [some (.ref 174), some (.int a1), some (.int a2), none, none] [] s g none y) (h : f_X12_laysChase_L7_B n q7 a1 a2 s = some y) : hq_R (mm_O xs) d mc_X12_laysChase 7 [some (.ref 174), some (.int a1), some (.int a2), none, none] [] s g none y := by
  unfold f_X12_laysChase_L7_B at h
  refine hq_p 2 9 [some (.ref 174), some (.int a1), some (.int a2), none, none] [.ref 174, .int a2] (fun n h => rfl) ?_
  refine hq_gf (x := .ref 212) rfl rfl rfl rfl rfl ?_
  refine hq_p 3 15 [some (.ref 174), some (.int a1), some (.int a2), none, none] [.int (a1 + (1 : Int32)), .ref 212, .int a2] (fun n h => rfl) ?_
  obtain ⟨x2, hx2, h⟩ := hq_bind h
  refine hq_iaload rfl rfl rfl hx2 ?_
  by_cases c3 : a2 < x2
  · rw [if_pos c3] at h
    refine hq_icF rfl (hq_c_ge_F c3) ?_
    refine hq_p 1 20 [some (.ref 174), some (.int a1), some (.int a2), none, none] [.ref 174] (fun n h => rfl) ?_
    refine hq_gf (x := .ref 208) rfl rfl rfl rfl rfl ?_
    refine hq_p 3 26 [some (.ref 174), some (.int a1), some (.int a2), none, none] [.int a2, .ref 174, .int a2, .ref 208] (fun n h => rfl) ?_
    obtain ⟨y25, hy25, h⟩ := hq_bind h
    refine hq_inv rfl rfl (Nat.le_trans (by decide) hd) rfl rfl (hq_rcv rfl rfl) (f_X12_reads10_run (Nat.le_sub_of_add_le (Nat.le_trans (by decide) hd)) hy25) rfl ?_
    obtain ⟨z26, hz26, h⟩ := hq_bind h
    suffices hT : hq_R (mm_O xs) d mc_X12_laysChase 50 [some (.ref 174), some (.int a1), some (.int a2), none, none] [.int z26.1, .int a2, .ref 208] z26.2 g none y from by
      clear h
      have h := hz26
      by_cases c27 : y25.1 = 0
      · rw [if_pos c27] at h
        refine hq_izT rfl (hq_c_eq_T c27) ?_
        refine hq_icn (-1 : Int32) rfl (by decide) ?_
        cases h
        exact hT
      · rw [if_neg c27] at h
        refine hq_izF rfl (hq_c_eq_F c27) ?_
        refine hq_p 2 34 [some (.ref 174), some (.int a1), some (.int a2), none, none] [.ref 174, .ref 174, .int a2, .ref 208] (fun n h => rfl) ?_
        refine hq_gf (x := .ref 211) rfl rfl rfl rfl rfl ?_
        refine hq_p 1 38 [some (.ref 174), some (.int a1), some (.int a2), none, none] [.int a1, .ref 211, .ref 174, .int a2, .ref 208] (fun n h => rfl) ?_
        obtain ⟨x28, hx28, h⟩ := hq_bind h
        refine hq_iaload rfl rfl List.length_replicate hx28 ?_
        obtain ⟨y29, hy29, h⟩ := hq_bind h
        refine hq_inv rfl rfl (Nat.le_trans (by decide) hd) rfl rfl (hq_rcv rfl rfl) (f_X12_isAmong_run (Nat.le_sub_of_add_le (Nat.le_trans (by decide) hd)) hy29) rfl ?_
        by_cases c30 : y29.1 = 0
        · rw [if_pos c30] at h
          refine hq_izT rfl (hq_c_eq_T c30) ?_
          refine hq_icn (-1 : Int32) rfl (by decide) ?_
          cases h
          exact hT
        · rw [if_neg c30] at h
          refine hq_izF rfl (hq_c_eq_F c30) ?_
          refine hq_p 2 50 [some (.ref 174), some (.int a1), some (.int a2), none, none] [.int (0 : Int32), .int a2, .ref 208] (fun n h => rfl) ?_
          cases h
          exact hT
    obtain ⟨s31, hs31, h⟩ := hq_bind h
    refine hq_iastore rfl rfl List.length_replicate hs31 ?_
    refine hq_p 2 7 [some (.ref 174), some (.int a1), some (.int (a2 + (1 : Int32))), none, none] [] (fun n h => rfl) ?_
    exact e7 a1 (a2 + (1 : Int32)) s31 h
  · rw [if_neg c3] at h
    refine hq_icT rfl (hq_c_ge_T c3) ?_
    refine hq_p 1 58 [some (.ref 174), some (.int a1), some (.int a2), none, none] [.int a1] (fun n h => rfl) ?_
    obtain ⟨z4, hz4, h⟩ := hq_bind h
    suffices hT : hq_R (mm_O xs) d mc_X12_laysChase 66 [some (.ref 174), some (.int a1), some (.int a2), none, none] [.int z4] s g none y from by
      clear h
      have h := hz4
      by_cases c5 : 0 < a1
      · rw [if_pos c5] at h
        refine hq_izF rfl (hq_c_le_F c5) ?_
        refine hq_p 2 66 [some (.ref 174), some (.int a1), some (.int a2), none, none] [.int (1 : Int32)] (fun n h => rfl) ?_
        cases h
        exact hT
      · rw [if_neg c5] at h
        refine hq_izT rfl (hq_c_le_T c5) ?_
        refine hq_p 1 66 [some (.ref 174), some (.int a1), some (.int a2), none, none] [.int (0 : Int32)] (fun n h => rfl) ?_
        cases h
        exact hT
    refine hq_p 3 69 [some (.ref 174), some (.int a1), some (.int z4), some (.int (1 : Int32)), none] [] (fun n h => rfl) ?_
    exact f_X12_laysChase_L69_run hd h
theorem f_X12_laysChase_L7_run {xs : List Int32} {n m d g : Nat} {a1 : Int32} {a2 : Int32} {s : hq_S} {y : hq_S} (hd : 2 ≤ d) (h : f_X12_laysChase_L7 n m a1 a2 s = some y) : hq_R (mm_O xs) d mc_X12_laysChase 7 [some (.ref 174), some (.int a1), some (.int a2), none, none] [] s g none y := by
  induction m generalizing a1 a2 s with
  | zero => cases h
  | succ m ih => exact f_X12_laysChase_L7_Brun (n := n) hd (fun a1 a2 s h => ih h) h
def f_X12_laysChase (n : Nat) (a1 : Int32) (s : hq_S) : Option hq_S := (hq_pi s 174 60 0 a1).bind fun s1 => f_X12_laysChase_L7 n n a1 (0 : Int32) s1
theorem f_X12_laysChase_run {xs : List Int32} {n d g : Nat} {a1 : Int32} {s : hq_S} {y : hq_S} (hd : 2 ≤ d) (h : f_X12_laysChase n a1 s = some y) : hq_R (mm_O xs) d mc_X12_laysChase 0 [some (.ref 174), some (.int a1), none, none, none] [] s g none y := by
  unfold f_X12_laysChase at h
  refine hq_p 2 2 [some (.ref 174), some (.int a1), none, none, none] [.int a1, .ref 174] (fun n h => rfl) ?_
  obtain ⟨s1, hs1, h⟩ := hq_bind h
  refine hq_pfi rfl rfl rfl rfl rfl hs1 ?_
  refine hq_p 2 7 [some (.ref 174), some (.int a1), some (.int (0 : Int32)), none, none] [] (fun n h => rfl) ?_
  exact f_X12_laysChase_L7_run hd h
def f_X12_codeOf_L5_B (n : Nat) (q5 : Nat → Int32 → Int32 → Int32 → hq_S → Option (Int32 × hq_S)) (k1 : Nat) (a2 : Int32) (a3 : Int32) (a4 : Int32) (s : hq_S) : Option (Int32 × hq_S) := if a4 < (hq_gi s 174 60) then (hq_ldiA s k1 a4).bind fun x2 => q5 k1 a2 (((10 : Int32) * a3) + x2) (a4 + (1 : Int32)) s else some ((((10 : Int32) * a3) + a2), s)
def f_X12_codeOf_L5 (n : Nat) (m : Nat) : Nat → Int32 → Int32 → Int32 → hq_S → Option (Int32 × hq_S) := Nat.rec (fun _ _ _ _ _ => none) (fun _ q => f_X12_codeOf_L5_B n q) m
theorem f_X12_codeOf_L5_Brun {xs : List Int32} {n d g : Nat} {k1 : Nat} {a2 : Int32} {a3 : Int32} {a4 : Int32} {q5 : Nat → Int32 → Int32 → Int32 → hq_S → Option (Int32 × hq_S)} {s : hq_S} {y : (Int32 × hq_S)} (hd : 0 ≤ d) (e5 : ∀ (k1 : Nat) (a2 : Int32) (a3 : Int32) (a4 : Int32) (s : hq_S), q5 k1 a2 a3 a4 s = some y → hq_R (mm_O xs) d mc_X12_codeOf 5 [some (.ref 174), some (.ref k1), some (.int a2), some (.int a3), some (.int a4)] [] s g (some (.int y.1)) y.2) (h : f_X12_codeOf_L5_B n q5 k1 a2 a3 a4 s = some y) : hq_R (mm_O xs) d mc_X12_codeOf 5 [some (.ref 174), some (.ref k1), some (.int a2), some (.int a3), some (.int a4)] [] s g (some (.int y.1)) y.2 := by
  unfold f_X12_codeOf_L5_B at h
  refine hq_p 2 8 [some (.ref 174), some (.ref k1), some (.int a2), some (.int a3), some (.int a4)] [.ref 174, .int a4] (fun n h => rfl) ?_
  refine hq_gf (x := .int (hq_gi s 174 60)) rfl rfl rfl rfl rfl ?_
  by_cases c1 : a4 < (hq_gi s 174 60)
  · rw [if_pos c1] at h
    refine hq_icF rfl (hq_c_ge_F c1) ?_
    refine hq_p 5 21 [some (.ref 174), some (.ref k1), some (.int a2), some (.int a3), some (.int a4)] [.int a4, .ref k1, .int ((10 : Int32) * a3)] (fun n h => rfl) ?_
    obtain ⟨x2, hx2, h⟩ := hq_bind h
    refine hq_ialoadA rfl hx2 ?_
    refine hq_p 4 5 [some (.ref 174), some (.ref k1), some (.int a2), some (.int (((10 : Int32) * a3) + x2)), some (.int (a4 + (1 : Int32)))] [] (fun n h => rfl) ?_
    exact e5 k1 a2 (((10 : Int32) * a3) + x2) (a4 + (1 : Int32)) s h
  · rw [if_neg c1] at h
    refine hq_icT rfl (hq_c_ge_T c1) ?_
    refine hq_p 5 36 [some (.ref 174), some (.ref k1), some (.int a2), some (.int a3), some (.int a4)] [.int (((10 : Int32) * a3) + a2)] (fun n h => rfl) ?_
    have h := Option.some.inj h
    subst h
    exact ⟨1, rfl⟩
theorem f_X12_codeOf_L5_run {xs : List Int32} {n m d g : Nat} {k1 : Nat} {a2 : Int32} {a3 : Int32} {a4 : Int32} {s : hq_S} {y : (Int32 × hq_S)} (hd : 0 ≤ d) (h : f_X12_codeOf_L5 n m k1 a2 a3 a4 s = some y) : hq_R (mm_O xs) d mc_X12_codeOf 5 [some (.ref 174), some (.ref k1), some (.int a2), some (.int a3), some (.int a4)] [] s g (some (.int y.1)) y.2 := by
  induction m generalizing k1 a2 a3 a4 s with
  | zero => cases h
  | succ m ih => exact f_X12_codeOf_L5_Brun (n := n) hd (fun k1 a2 a3 a4 s h => ih h) h
def f_X12_codeOf (n : Nat) (k1 : Nat) (a2 : Int32) (s : hq_S) : Option (Int32 × hq_S) := f_X12_codeOf_L5 n n k1 a2 (0 : Int32) (0 : Int32) s
theorem f_X12_codeOf_run {xs : List Int32} {n d g : Nat} {k1 : Nat} {a2 : Int32} {s : hq_S} {y : (Int32 × hq_S)} (hd : 0 ≤ d) (h : f_X12_codeOf n k1 a2 s = some y) : hq_R (mm_O xs) d mc_X12_codeOf 0 [some (.ref 174), some (.ref k1), some (.int a2), none, none] [] s g (some (.int y.1)) y.2 := by
  unfold f_X12_codeOf at h
  refine hq_p 4 5 [some (.ref 174), some (.ref k1), some (.int a2), some (.int (0 : Int32)), some (.int (0 : Int32))] [] (fun n h => rfl) ?_
  exact f_X12_codeOf_L5_run hd h
def f_X12_putsGuards_L9_B (n : Nat) (q9 : Int32 → Int32 → Int32 → hq_S → Option hq_S) (a1 : Int32) (a2 : Int32) (a3 : Int32) (s : hq_S) : Option hq_S := (hq_ld s 176 14 (2 : Int32)).bind fun x2 => if a3 < x2 then (if ((a1 >>> (a3 &&& 31)) &&& (1 : Int32)) = 0 then some (a2, s) else (hq_st s 213 3 a2 a3).bind fun s7 => some ((a2 + (1 : Int32)), s7)).bind fun z5 => q9 a1 z5.1 (a3 + (1 : Int32)) z5.2 else (f_X12_laysChase n a2 s).bind fun s4 => some s4
def f_X12_putsGuards_L9 (n : Nat) (m : Nat) : Int32 → Int32 → Int32 → hq_S → Option hq_S := Nat.rec (fun _ _ _ _ => none) (fun _ q => f_X12_putsGuards_L9_B n q) m
theorem f_X12_putsGuards_L9_Brun {xs : List Int32} {n d g : Nat} {a1 : Int32} {a2 : Int32} {a3 : Int32} {q9 : Int32 → Int32 → Int32 → hq_S → Option hq_S} {s : hq_S} {y : hq_S} (hd : 3 ≤ d) (e9 : ∀ (a1 : Int32) (a2 : Int32) (a3 : Int32) (s : hq_S), q9 a1 a2 a3 s = some y → hq_R (mm_O xs) d mc_X12_putsGuards 9 [some (.ref 174), some (.int a1), some (.int a2), some (.int a3)] [] s g none y) (h : f_X12_putsGuards_L9_B n q9 a1 a2 a3 s = some y) : hq_R (mm_O xs) d mc_X12_putsGuards 9 [some (.ref 174), some (.int a1), some (.int a2), some (.int a3)] [] s g none y := by
  unfold f_X12_putsGuards_L9_B at h
  refine hq_p 2 11 [some (.ref 174), some (.int a1), some (.int a2), some (.int a3)] [.ref 174, .int a3] (fun n h => rfl) ?_
  refine hq_gf (x := .ref 176) rfl rfl rfl rfl rfl ?_
  refine hq_p 1 15 [some (.ref 174), some (.int a1), some (.int a2), some (.int a3)] [.int (2 : Int32), .ref 176, .int a3] (fun n h => rfl) ?_
  obtain ⟨x2, hx2, h⟩ := hq_bind h
  refine hq_iaload rfl rfl rfl hx2 ?_
  by_cases c3 : a3 < x2
  · rw [if_pos c3] at h
    refine hq_icF rfl (hq_c_ge_F c3) ?_
    refine hq_p 5 24 [some (.ref 174), some (.int a1), some (.int a2), some (.int a3)] [.int ((a1 >>> (a3 &&& 31)) &&& (1 : Int32))] (fun n h => rfl) ?_
    obtain ⟨z5, hz5, h⟩ := hq_bind h
    suffices hT : hq_R (mm_O xs) d mc_X12_putsGuards 40 [some (.ref 174), some (.int a1), some (.int z5.1), some (.int a3)] [] z5.2 g none y from by
      clear h
      have h := hz5
      by_cases c6 : ((a1 >>> (a3 &&& 31)) &&& (1 : Int32)) = 0
      · rw [if_pos c6] at h
        refine hq_izF rfl (hq_c_ne_F c6) ?_
        refine hq_p 1 40 [some (.ref 174), some (.int a1), some (.int a2), some (.int a3)] [] (fun n h => rfl) ?_
        cases h
        exact hT
      · rw [if_neg c6] at h
        refine hq_izT rfl (hq_c_ne_T c6) ?_
        refine hq_p 1 31 [some (.ref 174), some (.int a1), some (.int a2), some (.int a3)] [.ref 174] (fun n h => rfl) ?_
        refine hq_gf (x := .ref 213) rfl rfl rfl rfl rfl ?_
        refine hq_p 2 36 [some (.ref 174), some (.int a1), some (.int a2), some (.int a3)] [.int a3, .int a2, .ref 213] (fun n h => rfl) ?_
        obtain ⟨s7, hs7, h⟩ := hq_bind h
        refine hq_iastore rfl rfl List.length_replicate hs7 ?_
        refine hq_p 1 40 [some (.ref 174), some (.int a1), some (.int (a2 + (1 : Int32))), some (.int a3)] [] (fun n h => rfl) ?_
        cases h
        exact hT
    refine hq_p 2 9 [some (.ref 174), some (.int a1), some (.int z5.1), some (.int (a3 + (1 : Int32)))] [] (fun n h => rfl) ?_
    exact e9 a1 z5.1 (a3 + (1 : Int32)) z5.2 h
  · rw [if_neg c3] at h
    refine hq_icT rfl (hq_c_ge_T c3) ?_
    refine hq_p 2 48 [some (.ref 174), some (.int a1), some (.int a2), some (.int a3)] [.int a2, .ref 174] (fun n h => rfl) ?_
    obtain ⟨s4, hs4, h⟩ := hq_bind h
    refine hq_inv rfl rfl (Nat.le_trans (by decide) hd) rfl rfl (hq_rcv rfl rfl) (f_X12_laysChase_run (Nat.le_sub_of_add_le (Nat.le_trans (by decide) hd)) hs4) rfl ?_
    have h := Option.some.inj h
    subst h
    exact ⟨1, rfl⟩
theorem f_X12_putsGuards_L9_run {xs : List Int32} {n m d g : Nat} {a1 : Int32} {a2 : Int32} {a3 : Int32} {s : hq_S} {y : hq_S} (hd : 3 ≤ d) (h : f_X12_putsGuards_L9 n m a1 a2 a3 s = some y) : hq_R (mm_O xs) d mc_X12_putsGuards 9 [some (.ref 174), some (.int a1), some (.int a2), some (.int a3)] [] s g none y := by
  induction m generalizing a1 a2 a3 s with
  | zero => cases h
  | succ m ih => exact f_X12_putsGuards_L9_Brun (n := n) hd (fun a1 a2 a3 s h => ih h) h
def f_X12_putsGuards (n : Nat) (a1 : Int32) (s : hq_S) : Option hq_S := (f_X12_lays n (0 : Int32) s).bind fun s1 => f_X12_putsGuards_L9 n n a1 (0 : Int32) (0 : Int32) s1
theorem f_X12_putsGuards_run {xs : List Int32} {n d g : Nat} {a1 : Int32} {s : hq_S} {y : hq_S} (hd : 3 ≤ d) (h : f_X12_putsGuards n a1 s = some y) : hq_R (mm_O xs) d mc_X12_putsGuards 0 [some (.ref 174), some (.int a1), none, none] [] s g none y := by
  unfold f_X12_putsGuards at h
  refine hq_p 2 2 [some (.ref 174), some (.int a1), none, none] [.int (0 : Int32), .ref 174] (fun n h => rfl) ?_
  obtain ⟨s1, hs1, h⟩ := hq_bind h
  refine hq_inv rfl rfl (Nat.le_trans (by decide) hd) rfl rfl (hq_rcv rfl rfl) (f_X12_lays_run (Nat.le_sub_of_add_le (Nat.le_trans (by decide) hd)) hs1) rfl ?_
  refine hq_p 4 9 [some (.ref 174), some (.int a1), some (.int (0 : Int32)), some (.int (0 : Int32))] [] (fun n h => rfl) ?_
  exact f_X12_putsGuards_L9_run hd h
def f_X12_roundsOf_L2_B (n : Nat) (q2 : Int32 → Int32 → hq_S → Option (Int32 × hq_S)) (a1 : Int32) (a2 : Int32) (s : hq_S) : Option (Int32 × hq_S) := if a2 < (hq_gi s 174 60) then (hq_ld s 213 3 a2).bind fun x5 => (hq_ld s 200 69 x5).bind fun x6 => (hq_st s 214 3 a2 x6).bind fun s7 => q2 a1 (a2 + (1 : Int32)) s7 else if (hq_gi s 174 60) = 0 then some ((-1 : Int32), s) else (f_X12_codeOf n 214 a1 s).bind fun y3 => (hq_ld y3.2 208 10000 y3.1).bind fun x4 => some (x4, y3.2)
def f_X12_roundsOf_L2 (n : Nat) (m : Nat) : Int32 → Int32 → hq_S → Option (Int32 × hq_S) := Nat.rec (fun _ _ _ => none) (fun _ q => f_X12_roundsOf_L2_B n q) m
theorem f_X12_roundsOf_L2_Brun {xs : List Int32} {n d g : Nat} {a1 : Int32} {a2 : Int32} {q2 : Int32 → Int32 → hq_S → Option (Int32 × hq_S)} {s : hq_S} {y : (Int32 × hq_S)} (hd : 1 ≤ d) (e2 : ∀ (a1 : Int32) (a2 : Int32) (s : hq_S), q2 a1 a2 s = some y → hq_R (mm_O xs) d mc_X12_roundsOf 2 [some (.ref 174), some (.int a1), some (.int a2)] [] s g (some (.int y.1)) y.2) (h : f_X12_roundsOf_L2_B n q2 a1 a2 s = some y) : hq_R (mm_O xs) d mc_X12_roundsOf 2 [some (.ref 174), some (.int a1), some (.int a2)] [] s g (some (.int y.1)) y.2 := by
  unfold f_X12_roundsOf_L2_B at h
  refine hq_p 2 4 [some (.ref 174), some (.int a1), some (.int a2)] [.ref 174, .int a2] (fun n h => rfl) ?_
  refine hq_gf (x := .int (hq_gi s 174 60)) rfl rfl rfl rfl rfl ?_
  by_cases c1 : a2 < (hq_gi s 174 60)
  · rw [if_pos c1] at h
    refine hq_icF rfl (hq_c_ge_F c1) ?_
    refine hq_p 1 11 [some (.ref 174), some (.int a1), some (.int a2)] [.ref 174] (fun n h => rfl) ?_
    refine hq_gf (x := .ref 214) rfl rfl rfl rfl rfl ?_
    refine hq_p 2 16 [some (.ref 174), some (.int a1), some (.int a2)] [.ref 174, .int a2, .ref 214] (fun n h => rfl) ?_
    refine hq_gf (x := .ref 200) rfl rfl rfl rfl rfl ?_
    refine hq_p 1 20 [some (.ref 174), some (.int a1), some (.int a2)] [.ref 174, .ref 200, .int a2, .ref 214] (fun n h => rfl) ?_
    refine hq_gf (x := .ref 213) rfl rfl rfl rfl rfl ?_
    refine hq_p 1 24 [some (.ref 174), some (.int a1), some (.int a2)] [.int a2, .ref 213, .ref 200, .int a2, .ref 214] (fun n h => rfl) ?_
    obtain ⟨x5, hx5, h⟩ := hq_bind h
    refine hq_iaload rfl rfl List.length_replicate hx5 ?_
    obtain ⟨x6, hx6, h⟩ := hq_bind h
    refine hq_iaload rfl rfl List.length_replicate hx6 ?_
    obtain ⟨s7, hs7, h⟩ := hq_bind h
    refine hq_iastore rfl rfl List.length_replicate hs7 ?_
    refine hq_p 2 2 [some (.ref 174), some (.int a1), some (.int (a2 + (1 : Int32)))] [] (fun n h => rfl) ?_
    exact e2 a1 (a2 + (1 : Int32)) s7 h
  · rw [if_neg c1] at h
    refine hq_icT rfl (hq_c_ge_T c1) ?_
    refine hq_p 1 34 [some (.ref 174), some (.int a1), some (.int a2)] [.ref 174] (fun n h => rfl) ?_
    refine hq_gf (x := .int (hq_gi s 174 60)) rfl rfl rfl rfl rfl ?_
    by_cases c2 : (hq_gi s 174 60) = 0
    · rw [if_pos c2] at h
      refine hq_izF rfl (hq_c_ne_F c2) ?_
      refine hq_icn (-1 : Int32) rfl (by decide) ?_
      refine hq_p 1 58 [some (.ref 174), some (.int a1), some (.int a2)] [.int (-1 : Int32)] (fun n h => rfl) ?_
      have h := Option.some.inj h
      subst h
      exact ⟨1, rfl⟩
    · rw [if_neg c2] at h
      refine hq_izT rfl (hq_c_ne_T c2) ?_
      refine hq_p 1 45 [some (.ref 174), some (.int a1), some (.int a2)] [.ref 174] (fun n h => rfl) ?_
      refine hq_gf (x := .ref 208) rfl rfl rfl rfl rfl ?_
      refine hq_p 2 50 [some (.ref 174), some (.int a1), some (.int a2)] [.ref 174, .ref 174, .ref 208] (fun n h => rfl) ?_
      refine hq_gf (x := .ref 214) rfl rfl rfl rfl rfl ?_
      refine hq_p 1 54 [some (.ref 174), some (.int a1), some (.int a2)] [.int a1, .ref 214, .ref 174, .ref 208] (fun n h => rfl) ?_
      obtain ⟨y3, hy3, h⟩ := hq_bind h
      refine hq_inv rfl rfl (Nat.le_trans (by decide) hd) rfl rfl (hq_rcv rfl rfl) (f_X12_codeOf_run (Nat.le_sub_of_add_le (Nat.le_trans (by decide) hd)) hy3) rfl ?_
      obtain ⟨x4, hx4, h⟩ := hq_bind h
      refine hq_iaload rfl rfl List.length_replicate hx4 ?_
      have h := Option.some.inj h
      subst h
      exact ⟨1, rfl⟩
theorem f_X12_roundsOf_L2_run {xs : List Int32} {n m d g : Nat} {a1 : Int32} {a2 : Int32} {s : hq_S} {y : (Int32 × hq_S)} (hd : 1 ≤ d) (h : f_X12_roundsOf_L2 n m a1 a2 s = some y) : hq_R (mm_O xs) d mc_X12_roundsOf 2 [some (.ref 174), some (.int a1), some (.int a2)] [] s g (some (.int y.1)) y.2 := by
  induction m generalizing a1 a2 s with
  | zero => cases h
  | succ m ih => exact f_X12_roundsOf_L2_Brun (n := n) hd (fun a1 a2 s h => ih h) h
def f_X12_roundsOf (n : Nat) (a1 : Int32) (s : hq_S) : Option (Int32 × hq_S) := f_X12_roundsOf_L2 n n a1 (0 : Int32) s
theorem f_X12_roundsOf_run {xs : List Int32} {n d g : Nat} {a1 : Int32} {s : hq_S} {y : (Int32 × hq_S)} (hd : 1 ≤ d) (h : f_X12_roundsOf n a1 s = some y) : hq_R (mm_O xs) d mc_X12_roundsOf 0 [some (.ref 174), some (.int a1), none] [] s g (some (.int y.1)) y.2 := by
  unfold f_X12_roundsOf at h
  refine hq_p 2 2 [some (.ref 174), some (.int a1), some (.int (0 : Int32))] [] (fun n h => rfl) ?_
  exact f_X12_roundsOf_L2_run hd h
def f_X12_areGuards (n : Nat) (a1 : Int32) (s : hq_S) : Option (Int32 × hq_S) := if a1 < 0 then some ((0 : Int32), s) else (hq_ld s 176 14 (2 : Int32)).bind fun x2 => if a1 < ((1 : Int32) <<< (x2 &&& 31)) then some ((1 : Int32), s) else some ((0 : Int32), s)
theorem f_X12_areGuards_run {xs : List Int32} {n d g : Nat} {a1 : Int32} {s : hq_S} {y : (Int32 × hq_S)} (hd : 0 ≤ d) (h : f_X12_areGuards n a1 s = some y) : hq_R (mm_O xs) d mc_X12_areGuards 0 [some (.ref 174), some (.int a1)] [] s g (some (.int y.1)) y.2 := by
  unfold f_X12_areGuards at h
  refine hq_p 1 1 [some (.ref 174), some (.int a1)] [.int a1] (fun n h => rfl) ?_
  by_cases c1 : a1 < 0
  · rw [if_pos c1] at h
    refine hq_izT rfl (hq_c_lt_T c1) ?_
    refine hq_p 1 21 [some (.ref 174), some (.int a1)] [.int (0 : Int32)] (fun n h => rfl) ?_
    have h := Option.some.inj h
    subst h
    exact ⟨1, rfl⟩
  · rw [if_neg c1] at h
    refine hq_izF rfl (hq_c_lt_F c1) ?_
    refine hq_p 3 7 [some (.ref 174), some (.int a1)] [.ref 174, .int (1 : Int32), .int a1] (fun n h => rfl) ?_
    refine hq_gf (x := .ref 176) rfl rfl rfl rfl rfl ?_
    refine hq_p 1 11 [some (.ref 174), some (.int a1)] [.int (2 : Int32), .ref 176, .int (1 : Int32), .int a1] (fun n h => rfl) ?_
    obtain ⟨x2, hx2, h⟩ := hq_bind h
    refine hq_iaload rfl rfl rfl hx2 ?_
    refine hq_p 1 13 [some (.ref 174), some (.int a1)] [.int ((1 : Int32) <<< (x2 &&& 31)), .int a1] (fun n h => rfl) ?_
    by_cases c3 : a1 < ((1 : Int32) <<< (x2 &&& 31))
    · rw [if_pos c3] at h
      refine hq_icF rfl (hq_c_ge_F c3) ?_
      refine hq_p 2 21 [some (.ref 174), some (.int a1)] [.int (1 : Int32)] (fun n h => rfl) ?_
      have h := Option.some.inj h
      subst h
      exact ⟨1, rfl⟩
    · rw [if_neg c3] at h
      refine hq_icT rfl (hq_c_ge_T c3) ?_
      refine hq_p 1 21 [some (.ref 174), some (.int a1)] [.int (0 : Int32)] (fun n h => rfl) ?_
      have h := Option.some.inj h
      subst h
      exact ⟨1, rfl⟩
def f_X12_chase (n : Nat) (a1 : Int32) (a2 : Int32) (s : hq_S) : Option (Int32 × hq_S) := (hq_pi s 174 0 0 (0 : Int32)).bind fun s1 => (f_X12_areGuards n a1 s1).bind fun y2 => if y2.1 = 0 then some ((-1 : Int32), y2.2) else (f_X12_isCorner n a2 y2.2).bind fun y4 => if y4.1 = 0 then some ((-1 : Int32), y4.2) else (f_X12_putsGuards n a1 y4.2).bind fun s6 => (f_X12_roundsOf n a2 s6).bind fun y7 => if y7.1 = (-1 : Int32) then some ((-2 : Int32), y7.2) else some (y7.1, y7.2)
theorem f_X12_chase_run {xs : List Int32} {n d g : Nat} {a1 : Int32} {a2 : Int32} {s : hq_S} {y : (Int32 × hq_S)} (hd : 4 ≤ d) (h : f_X12_chase n a1 a2 s = some y) : hq_R (mm_O xs) d mc_X12_chase 0 [some (.ref 174), some (.int a1), some (.int a2), none] [] s g (some (.int y.1)) y.2 := by
  unfold f_X12_chase at h
  refine hq_p 2 2 [some (.ref 174), some (.int a1), some (.int a2), none] [.int (0 : Int32), .ref 174] (fun n h => rfl) ?_
  obtain ⟨s1, hs1, h⟩ := hq_bind h
  refine hq_pfi rfl rfl rfl rfl rfl hs1 ?_
  refine hq_p 2 7 [some (.ref 174), some (.int a1), some (.int a2), none] [.int a1, .ref 174] (fun n h => rfl) ?_
  obtain ⟨y2, hy2, h⟩ := hq_bind h
  refine hq_inv rfl rfl (Nat.le_trans (by decide) hd) rfl rfl (hq_rcv rfl rfl) (f_X12_areGuards_run (Nat.le_sub_of_add_le (Nat.le_trans (by decide) hd)) hy2) rfl ?_
  by_cases c3 : y2.1 = 0
  · rw [if_pos c3] at h
    refine hq_izT rfl (hq_c_eq_T c3) ?_
    refine hq_icn (-1 : Int32) rfl (by decide) ?_
    have h := Option.some.inj h
    subst h
    exact ⟨1, rfl⟩
  · rw [if_neg c3] at h
    refine hq_izF rfl (hq_c_eq_F c3) ?_
    refine hq_p 2 15 [some (.ref 174), some (.int a1), some (.int a2), none] [.int a2, .ref 174] (fun n h => rfl) ?_
    obtain ⟨y4, hy4, h⟩ := hq_bind h
    refine hq_inv rfl rfl (Nat.le_trans (by decide) hd) rfl rfl (hq_rcv rfl rfl) (f_X12_isCorner_run (Nat.le_sub_of_add_le (Nat.le_trans (by decide) hd)) hy4) rfl ?_
    by_cases c5 : y4.1 = 0
    · rw [if_pos c5] at h
      refine hq_izF rfl (hq_c_ne_F c5) ?_
      refine hq_icn (-1 : Int32) rfl (by decide) ?_
      have h := Option.some.inj h
      subst h
      exact ⟨1, rfl⟩
    · rw [if_neg c5] at h
      refine hq_izT rfl (hq_c_ne_T c5) ?_
      refine hq_p 2 25 [some (.ref 174), some (.int a1), some (.int a2), none] [.int a1, .ref 174] (fun n h => rfl) ?_
      obtain ⟨s6, hs6, h⟩ := hq_bind h
      refine hq_inv rfl rfl (Nat.le_trans (by decide) hd) rfl rfl (hq_rcv rfl rfl) (f_X12_putsGuards_run (Nat.le_sub_of_add_le (Nat.le_trans (by decide) hd)) hs6) rfl ?_
      refine hq_p 2 30 [some (.ref 174), some (.int a1), some (.int a2), none] [.int a2, .ref 174] (fun n h => rfl) ?_
      obtain ⟨y7, hy7, h⟩ := hq_bind h
      refine hq_inv rfl rfl (Nat.le_trans (by decide) hd) rfl rfl (hq_rcv rfl rfl) (f_X12_roundsOf_run (Nat.le_sub_of_add_le (Nat.le_trans (by decide) hd)) hy7) rfl ?_
      refine hq_p 2 35 [some (.ref 174), some (.int a1), some (.int a2), some (.int y7.1)] [.int y7.1] (fun n h => rfl) ?_
      refine hq_icn (-1 : Int32) rfl (by decide) ?_
      by_cases c8 : y7.1 = (-1 : Int32)
      · rw [if_pos c8] at h
        refine hq_icF rfl (hq_c_ne_F c8) ?_
        refine hq_bip (-2 : Int32) rfl (by decide) ?_
        refine hq_p 1 45 [some (.ref 174), some (.int a1), some (.int a2), some (.int y7.1)] [.int (-2 : Int32)] (fun n h => rfl) ?_
        have h := Option.some.inj h
        subst h
        exact ⟨1, rfl⟩
      · rw [if_neg c8] at h
        refine hq_icT rfl (hq_c_ne_T c8) ?_
        refine hq_p 1 45 [some (.ref 174), some (.int a1), some (.int a2), some (.int y7.1)] [.int y7.1] (fun n h => rfl) ?_
        have h := Option.some.inj h
        subst h
        exact ⟨1, rfl⟩
def f_X12_isAt_L2_B (n : Nat) (q2 : Int32 → Int32 → hq_S → Option (Int32 × hq_S)) (a1 : Int32) (a2 : Int32) (s : hq_S) : Option (Int32 × hq_S) := if a2 < (hq_gi s 174 60) then (hq_ld s 214 3 a2).bind fun x2 => if x2 = a1 then some ((1 : Int32), s) else q2 a1 (a2 + (1 : Int32)) s else some ((0 : Int32), s)
def f_X12_isAt_L2 (n : Nat) (m : Nat) : Int32 → Int32 → hq_S → Option (Int32 × hq_S) := Nat.rec (fun _ _ _ => none) (fun _ q => f_X12_isAt_L2_B n q) m
theorem f_X12_isAt_L2_Brun {xs : List Int32} {n d g : Nat} {a1 : Int32} {a2 : Int32} {q2 : Int32 → Int32 → hq_S → Option (Int32 × hq_S)} {s : hq_S} {y : (Int32 × hq_S)} (hd : 0 ≤ d) (e2 : ∀ (a1 : Int32) (a2 : Int32) (s : hq_S), q2 a1 a2 s = some y → hq_R (mm_O xs) d mc_X12_isAt 2 [some (.ref 174), some (.int a1), some (.int a2)] [] s g (some (.int y.1)) y.2) (h : f_X12_isAt_L2_B n q2 a1 a2 s = some y) : hq_R (mm_O xs) d mc_X12_isAt 2 [some (.ref 174), some (.int a1), some (.int a2)] [] s g (some (.int y.1)) y.2 := by
  unfold f_X12_isAt_L2_B at h
  refine hq_p 2 4 [some (.ref 174), some (.int a1), some (.int a2)] [.ref 174, .int a2] (fun n h => rfl) ?_
  refine hq_gf (x := .int (hq_gi s 174 60)) rfl rfl rfl rfl rfl ?_
  by_cases c1 : a2 < (hq_gi s 174 60)
  · rw [if_pos c1] at h
    refine hq_icF rfl (hq_c_ge_F c1) ?_
    refine hq_p 1 11 [some (.ref 174), some (.int a1), some (.int a2)] [.ref 174] (fun n h => rfl) ?_
    refine hq_gf (x := .ref 214) rfl rfl rfl rfl rfl ?_
    refine hq_p 1 15 [some (.ref 174), some (.int a1), some (.int a2)] [.int a2, .ref 214] (fun n h => rfl) ?_
    obtain ⟨x2, hx2, h⟩ := hq_bind h
    refine hq_iaload rfl rfl List.length_replicate hx2 ?_
    refine hq_p 1 17 [some (.ref 174), some (.int a1), some (.int a2)] [.int a1, .int x2] (fun n h => rfl) ?_
    by_cases c3 : x2 = a1
    · rw [if_pos c3] at h
      refine hq_icF rfl (hq_c_ne_F c3) ?_
      refine hq_p 1 21 [some (.ref 174), some (.int a1), some (.int a2)] [.int (1 : Int32)] (fun n h => rfl) ?_
      have h := Option.some.inj h
      subst h
      exact ⟨1, rfl⟩
    · rw [if_neg c3] at h
      refine hq_icT rfl (hq_c_ne_T c3) ?_
      refine hq_p 2 2 [some (.ref 174), some (.int a1), some (.int (a2 + (1 : Int32)))] [] (fun n h => rfl) ?_
      exact e2 a1 (a2 + (1 : Int32)) s h
  · rw [if_neg c1] at h
    refine hq_icT rfl (hq_c_ge_T c1) ?_
    refine hq_p 1 29 [some (.ref 174), some (.int a1), some (.int a2)] [.int (0 : Int32)] (fun n h => rfl) ?_
    have h := Option.some.inj h
    subst h
    exact ⟨1, rfl⟩
theorem f_X12_isAt_L2_run {xs : List Int32} {n m d g : Nat} {a1 : Int32} {a2 : Int32} {s : hq_S} {y : (Int32 × hq_S)} (hd : 0 ≤ d) (h : f_X12_isAt_L2 n m a1 a2 s = some y) : hq_R (mm_O xs) d mc_X12_isAt 2 [some (.ref 174), some (.int a1), some (.int a2)] [] s g (some (.int y.1)) y.2 := by
  induction m generalizing a1 a2 s with
  | zero => cases h
  | succ m ih => exact f_X12_isAt_L2_Brun (n := n) hd (fun a1 a2 s h => ih h) h
def f_X12_isAt (n : Nat) (a1 : Int32) (s : hq_S) : Option (Int32 × hq_S) := f_X12_isAt_L2 n n a1 (0 : Int32) s
theorem f_X12_isAt_run {xs : List Int32} {n d g : Nat} {a1 : Int32} {s : hq_S} {y : (Int32 × hq_S)} (hd : 0 ≤ d) (h : f_X12_isAt n a1 s = some y) : hq_R (mm_O xs) d mc_X12_isAt 0 [some (.ref 174), some (.int a1), none] [] s g (some (.int y.1)) y.2 := by
  unfold f_X12_isAt at h
  refine hq_p 2 2 [some (.ref 174), some (.int a1), some (.int (0 : Int32))] [] (fun n h => rfl) ?_
  exact f_X12_isAt_L2_run hd h
def f_X12_outcome_J87 (n : Nat) (q21 : Int32 → Int32 → Int32 → Int32 → hq_S → Option (Int32 × hq_S)) (a1 : Int32) (a2 : Int32) (a3 : Int32) (a4 : Int32) (s : hq_S) : Option (Int32 × hq_S) := q21 a1 a2 a3 (a4 + (1 : Int32)) s
theorem f_X12_outcome_J87_run {xs : List Int32} {n d g : Nat} {a1 : Int32} {a2 : Int32} {a3 : Int32} {a4 : Int32} {o5 : Option Value} {q21 : Int32 → Int32 → Int32 → Int32 → hq_S → Option (Int32 × hq_S)} {s : hq_S} {y : (Int32 × hq_S)} (hd : 1 ≤ d) (e21 : ∀ (a1 : Int32) (a2 : Int32) (a3 : Int32) (a4 : Int32) (o5 : Option Value) (s : hq_S), q21 a1 a2 a3 a4 s = some y → hq_R (mm_O xs) d mc_X12_outcome 21 [some (.ref 174), some (.int a1), some (.int a2), some (.int a3), some (.int a4), o5] [] s g (some (.int y.1)) y.2) (h : f_X12_outcome_J87 n q21 a1 a2 a3 a4 s = some y) : hq_R (mm_O xs) d mc_X12_outcome 87 [some (.ref 174), some (.int a1), some (.int a2), some (.int a3), some (.int a4), o5] [] s g (some (.int y.1)) y.2 := by
  unfold f_X12_outcome_J87 at h
  refine hq_p 2 21 [some (.ref 174), some (.int a1), some (.int a2), some (.int a3), some (.int (a4 + (1 : Int32))), o5] [] (fun n h => rfl) ?_
  exact e21 a1 a2 a3 (a4 + (1 : Int32)) _ s h
def f_X12_outcome_L21_B (n : Nat) (q21 : Int32 → Int32 → Int32 → Int32 → hq_S → Option (Int32 × hq_S)) (a1 : Int32) (a2 : Int32) (a3 : Int32) (a4 : Int32) (s : hq_S) : Option (Int32 × hq_S) := (hq_ld s 176 14 (0 : Int32)).bind fun x4 => if a4 < x4 then if ((a2 >>> (a4 &&& 31)) &&& (1 : Int32)) = 0 then f_X12_outcome_J87 n q21 a1 a2 a3 a4 s else (f_X12_isAt n a4 s).bind fun y7 => if y7.1 = 0 then (f_X12_codeOf n 214 a4 y7.2).bind fun y9 => (hq_ld y9.2 208 10000 y9.1).bind fun x10 => if x10 = (-1 : Int32) then some ((-1 : Int32), y9.2) else f_X12_outcome_J87 n q21 a1 a2 (hq_max a3 (x10 + (1 : Int32))) a4 y9.2 else f_X12_outcome_J87 n q21 a1 a2 a3 a4 y7.2 else some (a3, s)
def f_X12_outcome_L21 (n : Nat) (m : Nat) : Int32 → Int32 → Int32 → Int32 → hq_S → Option (Int32 × hq_S) := Nat.rec (fun _ _ _ _ _ => none) (fun _ q => f_X12_outcome_L21_B n q) m
theorem f_X12_outcome_L21_Brun {xs : List Int32} {n d g : Nat} {a1 : Int32} {a2 : Int32} {a3 : Int32} {a4 : Int32} {o5 : Option Value} {q21 : Int32 → Int32 → Int32 → Int32 → hq_S → Option (Int32 × hq_S)} {s : hq_S} {y : (Int32 × hq_S)} (hd : 1 ≤ d) (e21 : ∀ (a1 : Int32) (a2 : Int32) (a3 : Int32) (a4 : Int32) (o5 : Option Value) (s : hq_S), q21 a1 a2 a3 a4 s = some y → hq_R (mm_O xs) d mc_X12_outcome 21 [some (.ref 174), some (.int a1), some (.int a2), some (.int a3), some (.int a4), o5] [] s g (some (.int y.1)) y.2) (h : f_X12_outcome_L21_B n q21 a1 a2 a3 a4 s = some y) : hq_R (mm_O xs) d mc_X12_outcome 21 [some (.ref 174), some (.int a1), some (.int a2), some (.int a3), some (.int a4), o5] [] s g (some (.int y.1)) y.2 := by
  unfold f_X12_outcome_L21_B at h
  refine hq_p 2 24 [some (.ref 174), some (.int a1), some (.int a2), some (.int a3), some (.int a4), o5] [.ref 174, .int a4] (fun n h => rfl) ?_
  refine hq_gf (x := .ref 176) rfl rfl rfl rfl rfl ?_
  refine hq_p 1 28 [some (.ref 174), some (.int a1), some (.int a2), some (.int a3), some (.int a4), o5] [.int (0 : Int32), .ref 176, .int a4] (fun n h => rfl) ?_
  obtain ⟨x4, hx4, h⟩ := hq_bind h
  refine hq_iaload rfl rfl rfl hx4 ?_
  by_cases c5 : a4 < x4
  · rw [if_pos c5] at h
    refine hq_icF rfl (hq_c_ge_F c5) ?_
    refine hq_p 5 38 [some (.ref 174), some (.int a1), some (.int a2), some (.int a3), some (.int a4), o5] [.int ((a2 >>> (a4 &&& 31)) &&& (1 : Int32))] (fun n h => rfl) ?_
    by_cases c6 : ((a2 >>> (a4 &&& 31)) &&& (1 : Int32)) = 0
    · rw [if_pos c6] at h
      refine hq_izT rfl (hq_c_eq_T c6) ?_
      exact f_X12_outcome_J87_run hd e21 h
    · rw [if_neg c6] at h
      refine hq_izF rfl (hq_c_eq_F c6) ?_
      refine hq_p 2 44 [some (.ref 174), some (.int a1), some (.int a2), some (.int a3), some (.int a4), o5] [.int a4, .ref 174] (fun n h => rfl) ?_
      obtain ⟨y7, hy7, h⟩ := hq_bind h
      refine hq_inv rfl rfl (Nat.le_trans (by decide) hd) rfl rfl (hq_rcv rfl rfl) (f_X12_isAt_run (Nat.le_sub_of_add_le (Nat.le_trans (by decide) hd)) hy7) rfl ?_
      by_cases c8 : y7.1 = 0
      · rw [if_pos c8] at h
        refine hq_izT rfl (hq_c_eq_T c8) ?_
        refine hq_p 1 54 [some (.ref 174), some (.int a1), some (.int a2), some (.int a3), some (.int a4), o5] [.ref 174] (fun n h => rfl) ?_
        refine hq_gf (x := .ref 208) rfl rfl rfl rfl rfl ?_
        refine hq_p 2 59 [some (.ref 174), some (.int a1), some (.int a2), some (.int a3), some (.int a4), o5] [.ref 174, .ref 174, .ref 208] (fun n h => rfl) ?_
        refine hq_gf (x := .ref 214) rfl rfl rfl rfl rfl ?_
        refine hq_p 1 64 [some (.ref 174), some (.int a1), some (.int a2), some (.int a3), some (.int a4), o5] [.int a4, .ref 214, .ref 174, .ref 208] (fun n h => rfl) ?_
        obtain ⟨y9, hy9, h⟩ := hq_bind h
        refine hq_inv rfl rfl (Nat.le_trans (by decide) hd) rfl rfl (hq_rcv rfl rfl) (f_X12_codeOf_run (Nat.le_sub_of_add_le (Nat.le_trans (by decide) hd)) hy9) rfl ?_
        obtain ⟨x10, hx10, h⟩ := hq_bind h
        refine hq_iaload rfl rfl List.length_replicate hx10 ?_
        refine hq_p 2 72 [some (.ref 174), some (.int a1), some (.int a2), some (.int a3), some (.int a4), some (.int x10)] [.int x10] (fun n h => rfl) ?_
        refine hq_icn (-1 : Int32) rfl (by decide) ?_
        by_cases c11 : x10 = (-1 : Int32)
        · rw [if_pos c11] at h
          refine hq_icF rfl (hq_c_ne_F c11) ?_
          refine hq_icn (-1 : Int32) rfl (by decide) ?_
          have h := Option.some.inj h
          subst h
          exact ⟨1, rfl⟩
        · rw [if_neg c11] at h
          refine hq_icT rfl (hq_c_ne_T c11) ?_
          refine hq_p 4 83 [some (.ref 174), some (.int a1), some (.int a2), some (.int a3), some (.int a4), some (.int x10)] [.int (x10 + (1 : Int32)), .int a3] (fun n h => rfl) ?_
          refine hq_math rfl rfl rfl (Nat.le_trans (by decide) hd) ?_
          refine hq_p 1 87 [some (.ref 174), some (.int a1), some (.int a2), some (.int (hq_max a3 (x10 + (1 : Int32)))), some (.int a4), some (.int x10)] [] (fun n h => rfl) ?_
          exact f_X12_outcome_J87_run hd e21 h
      · rw [if_neg c8] at h
        refine hq_izF rfl (hq_c_eq_F c8) ?_
        refine hq_p 1 87 [some (.ref 174), some (.int a1), some (.int a2), some (.int a3), some (.int a4), o5] [] (fun n h => rfl) ?_
        exact f_X12_outcome_J87_run hd e21 h
  · rw [if_neg c5] at h
    refine hq_icT rfl (hq_c_ge_T c5) ?_
    refine hq_p 1 94 [some (.ref 174), some (.int a1), some (.int a2), some (.int a3), some (.int a4), o5] [.int a3] (fun n h => rfl) ?_
    have h := Option.some.inj h
    subst h
    exact ⟨1, rfl⟩
theorem f_X12_outcome_L21_run {xs : List Int32} {n m d g : Nat} {a1 : Int32} {a2 : Int32} {a3 : Int32} {a4 : Int32} {o5 : Option Value} {s : hq_S} {y : (Int32 × hq_S)} (hd : 1 ≤ d) (h : f_X12_outcome_L21 n m a1 a2 a3 a4 s = some y) : hq_R (mm_O xs) d mc_X12_outcome 21 [some (.ref 174), some (.int a1), some (.int a2), some (.int a3), some (.int a4), o5] [] s g (some (.int y.1)) y.2 := by
  induction m generalizing a1 a2 a3 a4 o5 s with
  | zero => cases h
  | succ m ih => exact f_X12_outcome_L21_Brun (n := n) hd (fun a1 a2 a3 a4 o5 s h => ih h) h
def f_X12_outcome (n : Nat) (a1 : Int32) (s : hq_S) : Option (Int32 × hq_S) := (f_X12_isAt n a1 s).bind fun y1 => if y1.1 = 0 then (f_X12_stayOrGo n a1 y1.2).bind fun y3 => f_X12_outcome_L21 n n a1 y3.1 (1 : Int32) (0 : Int32) y3.2 else some ((1 : Int32), y1.2)
theorem f_X12_outcome_run {xs : List Int32} {n d g : Nat} {a1 : Int32} {s : hq_S} {y : (Int32 × hq_S)} (hd : 1 ≤ d) (h : f_X12_outcome n a1 s = some y) : hq_R (mm_O xs) d mc_X12_outcome 0 [some (.ref 174), some (.int a1), none, none, none, none] [] s g (some (.int y.1)) y.2 := by
  unfold f_X12_outcome at h
  refine hq_p 2 2 [some (.ref 174), some (.int a1), none, none, none, none] [.int a1, .ref 174] (fun n h => rfl) ?_
  obtain ⟨y1, hy1, h⟩ := hq_bind h
  refine hq_inv rfl rfl (Nat.le_trans (by decide) hd) rfl rfl (hq_rcv rfl rfl) (f_X12_isAt_run (Nat.le_sub_of_add_le (Nat.le_trans (by decide) hd)) hy1) rfl ?_
  by_cases c2 : y1.1 = 0
  · rw [if_pos c2] at h
    refine hq_izT rfl (hq_c_eq_T c2) ?_
    refine hq_p 2 12 [some (.ref 174), some (.int a1), none, none, none, none] [.int a1, .ref 174] (fun n h => rfl) ?_
    obtain ⟨y3, hy3, h⟩ := hq_bind h
    refine hq_inv rfl rfl (Nat.le_trans (by decide) hd) rfl rfl (hq_rcv rfl rfl) (f_X12_stayOrGo_run (Nat.le_sub_of_add_le (Nat.le_trans (by decide) hd)) hy3) rfl ?_
    refine hq_p 5 21 [some (.ref 174), some (.int a1), some (.int y3.1), some (.int (1 : Int32)), some (.int (0 : Int32)), none] [] (fun n h => rfl) ?_
    exact f_X12_outcome_L21_run hd h
  · rw [if_neg c2] at h
    refine hq_izF rfl (hq_c_eq_F c2) ?_
    refine hq_p 1 9 [some (.ref 174), some (.int a1), none, none, none, none] [.int (1 : Int32)] (fun n h => rfl) ?_
    have h := Option.some.inj h
    subst h
    exact ⟨1, rfl⟩
def f_X12_laysRow_J89 (n : Nat) (R0 : Int32 → Int32 → Int32 → hq_S → Option (Int32 × hq_S)) (q43 : Int32 → Int32 → Int32 → Int32 → Int32 → hq_S → Option (Int32 × hq_S)) (a1 : Int32) (a2 : Int32) (a3 : Int32) (a4 : Int32) (a5 : Int32) (s : hq_S) : Option (Int32 × hq_S) := q43 a1 a2 a3 a4 (a5 + (1 : Int32)) s
theorem f_X12_laysRow_J89_run {xs : List Int32} {n d g : Nat} {R0 : Int32 → Int32 → Int32 → hq_S → Option (Int32 × hq_S)} {a1 : Int32} {a2 : Int32} {a3 : Int32} {a4 : Int32} {a5 : Int32} {q43 : Int32 → Int32 → Int32 → Int32 → Int32 → hq_S → Option (Int32 × hq_S)} {s : hq_S} {y : (Int32 × hq_S)} (hd : 2 ≤ d) (E0 : ∀ (a1 : Int32) (a2 : Int32) (a3 : Int32) (s : hq_S) (y : (Int32 × hq_S)), R0 a1 a2 a3 s = some y → hq_R (mm_O xs) (d - 1) mc_X12_laysRow 0 [some (.ref 174), some (.int a1), some (.int a2), some (.int a3), none, none] [] s g (some (.int y.1)) y.2) (e43 : ∀ (a1 : Int32) (a2 : Int32) (a3 : Int32) (a4 : Int32) (a5 : Int32) (s : hq_S), q43 a1 a2 a3 a4 a5 s = some y → hq_R (mm_O xs) d mc_X12_laysRow 43 [some (.ref 174), some (.int a1), some (.int a2), some (.int a3), some (.int a4), some (.int a5)] [] s g (some (.int y.1)) y.2) (h : f_X12_laysRow_J89 n R0 q43 a1 a2 a3 a4 a5 s = some y) : hq_R (mm_O xs) d mc_X12_laysRow 89 [some (.ref 174), some (.int a1), some (.int a2), some (.int a3), some (.int a4), some (.int a5)] [] s g (some (.int y.1)) y.2 := by
  unfold f_X12_laysRow_J89 at h
  refine hq_p 2 43 [some (.ref 174), some (.int a1), some (.int a2), some (.int a3), some (.int a4), some (.int (a5 + (1 : Int32)))] [] (fun n h => rfl) ?_
  exact e43 a1 a2 a3 a4 (a5 + (1 : Int32)) s h
def f_X12_laysRow_L43_B (n : Nat) (R0 : Int32 → Int32 → Int32 → hq_S → Option (Int32 × hq_S)) (q43 : Int32 → Int32 → Int32 → Int32 → Int32 → hq_S → Option (Int32 × hq_S)) (a1 : Int32) (a2 : Int32) (a3 : Int32) (a4 : Int32) (a5 : Int32) (s : hq_S) : Option (Int32 × hq_S) := (hq_ld s 176 14 (0 : Int32)).bind fun x5 => if a5 < x5 then if ((a4 >>> (a5 &&& 31)) &&& (1 : Int32)) = 0 then f_X12_laysRow_J89 n R0 q43 a1 a2 a3 a4 a5 s else (hq_st s 214 3 a1 a5).bind fun s8 => (R0 (a1 + (1 : Int32)) a2 a3 s8).bind fun y9 => if y9.1 = 0 then f_X12_laysRow_J89 n R0 q43 a1 a2 a3 a4 a5 y9.2 else some ((1 : Int32), y9.2) else some ((0 : Int32), s)
def f_X12_laysRow_L43 (n : Nat) (R0 : Int32 → Int32 → Int32 → hq_S → Option (Int32 × hq_S)) (m : Nat) : Int32 → Int32 → Int32 → Int32 → Int32 → hq_S → Option (Int32 × hq_S) := Nat.rec (fun _ _ _ _ _ _ => none) (fun _ q => f_X12_laysRow_L43_B n R0 q) m
theorem f_X12_laysRow_L43_Brun {xs : List Int32} {n d g : Nat} {R0 : Int32 → Int32 → Int32 → hq_S → Option (Int32 × hq_S)} {a1 : Int32} {a2 : Int32} {a3 : Int32} {a4 : Int32} {a5 : Int32} {q43 : Int32 → Int32 → Int32 → Int32 → Int32 → hq_S → Option (Int32 × hq_S)} {s : hq_S} {y : (Int32 × hq_S)} (hd : 2 ≤ d) (E0 : ∀ (a1 : Int32) (a2 : Int32) (a3 : Int32) (s : hq_S) (y : (Int32 × hq_S)), R0 a1 a2 a3 s = some y → hq_R (mm_O xs) (d - 1) mc_X12_laysRow 0 [some (.ref 174), some (.int a1), some (.int a2), some (.int a3), none, none] [] s g (some (.int y.1)) y.2) (e43 : ∀ (a1 : Int32) (a2 : Int32) (a3 : Int32) (a4 : Int32) (a5 : Int32) (s : hq_S), q43 a1 a2 a3 a4 a5 s = some y → hq_R (mm_O xs) d mc_X12_laysRow 43 [some (.ref 174), some (.int a1), some (.int a2), some (.int a3), some (.int a4), some (.int a5)] [] s g (some (.int y.1)) y.2) (h : f_X12_laysRow_L43_B n R0 q43 a1 a2 a3 a4 a5 s = some y) : hq_R (mm_O xs) d mc_X12_laysRow 43 [some (.ref 174), some (.int a1), some (.int a2), some (.int a3), some (.int a4), some (.int a5)] [] s g (some (.int y.1)) y.2 := by
  unfold f_X12_laysRow_L43_B at h
  refine hq_p 2 46 [some (.ref 174), some (.int a1), some (.int a2), some (.int a3), some (.int a4), some (.int a5)] [.ref 174, .int a5] (fun n h => rfl) ?_
  refine hq_gf (x := .ref 176) rfl rfl rfl rfl rfl ?_
  refine hq_p 1 50 [some (.ref 174), some (.int a1), some (.int a2), some (.int a3), some (.int a4), some (.int a5)] [.int (0 : Int32), .ref 176, .int a5] (fun n h => rfl) ?_
  obtain ⟨x5, hx5, h⟩ := hq_bind h
  refine hq_iaload rfl rfl rfl hx5 ?_
  by_cases c6 : a5 < x5
  · rw [if_pos c6] at h
    refine hq_icF rfl (hq_c_ge_F c6) ?_
    refine hq_p 5 61 [some (.ref 174), some (.int a1), some (.int a2), some (.int a3), some (.int a4), some (.int a5)] [.int ((a4 >>> (a5 &&& 31)) &&& (1 : Int32))] (fun n h => rfl) ?_
    by_cases c7 : ((a4 >>> (a5 &&& 31)) &&& (1 : Int32)) = 0
    · rw [if_pos c7] at h
      refine hq_izF rfl (hq_c_ne_F c7) ?_
      refine hq_p 1 89 [some (.ref 174), some (.int a1), some (.int a2), some (.int a3), some (.int a4), some (.int a5)] [] (fun n h => rfl) ?_
      exact f_X12_laysRow_J89_run hd E0 e43 h
    · rw [if_neg c7] at h
      refine hq_izT rfl (hq_c_ne_T c7) ?_
      refine hq_p 1 68 [some (.ref 174), some (.int a1), some (.int a2), some (.int a3), some (.int a4), some (.int a5)] [.ref 174] (fun n h => rfl) ?_
      refine hq_gf (x := .ref 214) rfl rfl rfl rfl rfl ?_
      refine hq_p 2 74 [some (.ref 174), some (.int a1), some (.int a2), some (.int a3), some (.int a4), some (.int a5)] [.int a5, .int a1, .ref 214] (fun n h => rfl) ?_
      obtain ⟨s8, hs8, h⟩ := hq_bind h
      refine hq_iastore rfl rfl List.length_replicate hs8 ?_
      refine hq_p 6 81 [some (.ref 174), some (.int a1), some (.int a2), some (.int a3), some (.int a4), some (.int a5)] [.int a3, .int a2, .int (a1 + (1 : Int32)), .ref 174] (fun n h => rfl) ?_
      obtain ⟨y9, hy9, h⟩ := hq_bind h
      refine hq_inv rfl rfl (Nat.le_trans (by decide) hd) rfl rfl (hq_rcv rfl rfl) (E0 (a1 + (1 : Int32)) a2 a3 _ _ hy9) rfl ?_
      by_cases c10 : y9.1 = 0
      · rw [if_pos c10] at h
        refine hq_izT rfl (hq_c_eq_T c10) ?_
        exact f_X12_laysRow_J89_run hd E0 e43 h
      · rw [if_neg c10] at h
        refine hq_izF rfl (hq_c_eq_F c10) ?_
        refine hq_p 1 88 [some (.ref 174), some (.int a1), some (.int a2), some (.int a3), some (.int a4), some (.int a5)] [.int (1 : Int32)] (fun n h => rfl) ?_
        have h := Option.some.inj h
        subst h
        exact ⟨1, rfl⟩
  · rw [if_neg c6] at h
    refine hq_icT rfl (hq_c_ge_T c6) ?_
    refine hq_p 1 96 [some (.ref 174), some (.int a1), some (.int a2), some (.int a3), some (.int a4), some (.int a5)] [.int (0 : Int32)] (fun n h => rfl) ?_
    have h := Option.some.inj h
    subst h
    exact ⟨1, rfl⟩
theorem f_X12_laysRow_L43_run {xs : List Int32} {n m d g : Nat} {R0 : Int32 → Int32 → Int32 → hq_S → Option (Int32 × hq_S)} {a1 : Int32} {a2 : Int32} {a3 : Int32} {a4 : Int32} {a5 : Int32} {s : hq_S} {y : (Int32 × hq_S)} (hd : 2 ≤ d) (E0 : ∀ (a1 : Int32) (a2 : Int32) (a3 : Int32) (s : hq_S) (y : (Int32 × hq_S)), R0 a1 a2 a3 s = some y → hq_R (mm_O xs) (d - 1) mc_X12_laysRow 0 [some (.ref 174), some (.int a1), some (.int a2), some (.int a3), none, none] [] s g (some (.int y.1)) y.2) (h : f_X12_laysRow_L43 n R0 m a1 a2 a3 a4 a5 s = some y) : hq_R (mm_O xs) d mc_X12_laysRow 43 [some (.ref 174), some (.int a1), some (.int a2), some (.int a3), some (.int a4), some (.int a5)] [] s g (some (.int y.1)) y.2 := by
  induction m generalizing a1 a2 a3 a4 a5 s with
  | zero => cases h
  | succ m ih => exact f_X12_laysRow_L43_Brun (n := n) hd E0 (fun a1 a2 a3 a4 a5 s h => ih h) h
def f_X12_laysRow_S (n : Nat) (R0 : Int32 → Int32 → Int32 → hq_S → Option (Int32 × hq_S)) (a1 : Int32) (a2 : Int32) (a3 : Int32) (s : hq_S) : Option (Int32 × hq_S) := if a1 = (hq_gi s 174 60) then (f_X12_outcome n a2 s).bind fun y11 => if y11.1 = a3 then some ((1 : Int32), y11.2) else some ((0 : Int32), y11.2) else (hq_ld s 213 3 a1).bind fun x2 => (hq_ld s 200 69 x2).bind fun x3 => (f_X12_stayOrGo n x3 s).bind fun y4 => f_X12_laysRow_L43 n R0 n a1 a2 a3 y4.1 (0 : Int32) y4.2
theorem f_X12_laysRow_S_run {xs : List Int32} {n d g : Nat} {R0 : Int32 → Int32 → Int32 → hq_S → Option (Int32 × hq_S)} {a1 : Int32} {a2 : Int32} {a3 : Int32} {s : hq_S} {y : (Int32 × hq_S)} (hd : 2 ≤ d) (E0 : ∀ (a1 : Int32) (a2 : Int32) (a3 : Int32) (s : hq_S) (y : (Int32 × hq_S)), R0 a1 a2 a3 s = some y → hq_R (mm_O xs) (d - 1) mc_X12_laysRow 0 [some (.ref 174), some (.int a1), some (.int a2), some (.int a3), none, none] [] s g (some (.int y.1)) y.2) (h : f_X12_laysRow_S n R0 a1 a2 a3 s = some y) : hq_R (mm_O xs) d mc_X12_laysRow 0 [some (.ref 174), some (.int a1), some (.int a2), some (.int a3), none, none] [] s g (some (.int y.1)) y.2 := by
  unfold f_X12_laysRow_S at h
  refine hq_p 2 2 [some (.ref 174), some (.int a1), some (.int a2), some (.int a3), none, none] [.ref 174, .int a1] (fun n h => rfl) ?_
  refine hq_gf (x := .int (hq_gi s 174 60)) rfl rfl rfl rfl rfl ?_
  by_cases c1 : a1 = (hq_gi s 174 60)
  · rw [if_pos c1] at h
    refine hq_icF rfl (hq_c_ne_F c1) ?_
    refine hq_p 2 10 [some (.ref 174), some (.int a1), some (.int a2), some (.int a3), none, none] [.int a2, .ref 174] (fun n h => rfl) ?_
    obtain ⟨y11, hy11, h⟩ := hq_bind h
    refine hq_inv rfl rfl (Nat.le_trans (by decide) hd) rfl rfl (hq_rcv rfl rfl) (f_X12_outcome_run (Nat.le_sub_of_add_le (Nat.le_trans (by decide) hd)) hy11) rfl ?_
    refine hq_p 1 14 [some (.ref 174), some (.int a1), some (.int a2), some (.int a3), none, none] [.int a3, .int y11.1] (fun n h => rfl) ?_
    by_cases c12 : y11.1 = a3
    · rw [if_pos c12] at h
      refine hq_icF rfl (hq_c_ne_F c12) ?_
      refine hq_p 2 22 [some (.ref 174), some (.int a1), some (.int a2), some (.int a3), none, none] [.int (1 : Int32)] (fun n h => rfl) ?_
      have h := Option.some.inj h
      subst h
      exact ⟨1, rfl⟩
    · rw [if_neg c12] at h
      refine hq_icT rfl (hq_c_ne_T c12) ?_
      refine hq_p 1 22 [some (.ref 174), some (.int a1), some (.int a2), some (.int a3), none, none] [.int (0 : Int32)] (fun n h => rfl) ?_
      have h := Option.some.inj h
      subst h
      exact ⟨1, rfl⟩
  · rw [if_neg c1] at h
    refine hq_icT rfl (hq_c_ne_T c1) ?_
    refine hq_p 2 25 [some (.ref 174), some (.int a1), some (.int a2), some (.int a3), none, none] [.ref 174, .ref 174] (fun n h => rfl) ?_
    refine hq_gf (x := .ref 200) rfl rfl rfl rfl rfl ?_
    refine hq_p 1 29 [some (.ref 174), some (.int a1), some (.int a2), some (.int a3), none, none] [.ref 174, .ref 200, .ref 174] (fun n h => rfl) ?_
    refine hq_gf (x := .ref 213) rfl rfl rfl rfl rfl ?_
    refine hq_p 1 33 [some (.ref 174), some (.int a1), some (.int a2), some (.int a3), none, none] [.int a1, .ref 213, .ref 200, .ref 174] (fun n h => rfl) ?_
    obtain ⟨x2, hx2, h⟩ := hq_bind h
    refine hq_iaload rfl rfl List.length_replicate hx2 ?_
    obtain ⟨x3, hx3, h⟩ := hq_bind h
    refine hq_iaload rfl rfl List.length_replicate hx3 ?_
    obtain ⟨y4, hy4, h⟩ := hq_bind h
    refine hq_inv rfl rfl (Nat.le_trans (by decide) hd) rfl rfl (hq_rcv rfl rfl) (f_X12_stayOrGo_run (Nat.le_sub_of_add_le (Nat.le_trans (by decide) hd)) hy4) rfl ?_
    refine hq_p 3 43 [some (.ref 174), some (.int a1), some (.int a2), some (.int a3), some (.int y4.1), some (.int (0 : Int32))] [] (fun n h => rfl) ?_
    exact f_X12_laysRow_L43_run hd E0 h
def f_X12_laysRow_G (n : Nat) (k : Nat) : Nat → Int32 → Int32 → Int32 → hq_S → Option (Int32 × hq_S) := Nat.rec (fun _ _ _ _ _ => none) (fun _ R c a1 a2 a3 s => match c with
  | _ => f_X12_laysRow_S n (R 0) a1 a2 a3 s) k
theorem f_X12_laysRow_G_run {xs : List Int32} {n g : Nat} : ∀ (k d : Nat), k + 2 ≤ d → (∀ (a1 : Int32) (a2 : Int32) (a3 : Int32) (s : hq_S) (y : (Int32 × hq_S)), f_X12_laysRow_G n k 0 a1 a2 a3 s = some y → hq_R (mm_O xs) d mc_X12_laysRow 0 [some (.ref 174), some (.int a1), some (.int a2), some (.int a3), none, none] [] s g (some (.int y.1)) y.2) := by
  intro k
  induction k with
  | zero =>
    intro d hd
    all_goals
      intros
      next h => cases h
  | succ k ih =>
    intro d hd
    have I := ih (d - 1) (by omega)
    have I0 := I
    · intro a1 a2 a3 s y h
      exact f_X12_laysRow_S_run (by omega) I0 h
def f_X12_laysRow (n : Nat) (a1 : Int32) (a2 : Int32) (a3 : Int32) (s : hq_S) : Option (Int32 × hq_S) := f_X12_laysRow_G n 10 0 a1 a2 a3 s
theorem f_X12_laysRow_run {xs : List Int32} {n d g : Nat} {a1 : Int32} {a2 : Int32} {a3 : Int32} {s : hq_S} {y : (Int32 × hq_S)} (hd : 12 ≤ d) (h : f_X12_laysRow n a1 a2 a3 s = some y) : hq_R (mm_O xs) d mc_X12_laysRow 0 [some (.ref 174), some (.int a1), some (.int a2), some (.int a3), none, none] [] s g (some (.int y.1)) y.2 := (f_X12_laysRow_G_run 10 d hd) a1 a2 a3 s y h
def f_X12_firstGo_L65_B (n : Nat) (q65 : Int32 → Int32 → Int32 → Int32 → Int32 → hq_S → Option (Int32 × hq_S)) (a1 : Int32) (a2 : Int32) (a3 : Int32) (a4 : Int32) (a5 : Int32) (s : hq_S) : Option (Int32 × hq_S) := if a5 < (hq_gi s 174 60) then (hq_ld s 213 3 a5).bind fun x14 => if x14 = a3 then (hq_ld s 214 3 a5).bind fun x16 => some (x16, s) else q65 a1 a2 a3 a4 (a5 + (1 : Int32)) s else some ((-2 : Int32), s)
def f_X12_firstGo_L65 (n : Nat) (m : Nat) : Int32 → Int32 → Int32 → Int32 → Int32 → hq_S → Option (Int32 × hq_S) := Nat.rec (fun _ _ _ _ _ _ => none) (fun _ q => f_X12_firstGo_L65_B n q) m
theorem f_X12_firstGo_L65_Brun {xs : List Int32} {n d g : Nat} {a1 : Int32} {a2 : Int32} {a3 : Int32} {a4 : Int32} {a5 : Int32} {q65 : Int32 → Int32 → Int32 → Int32 → Int32 → hq_S → Option (Int32 × hq_S)} {s : hq_S} {y : (Int32 × hq_S)} (hd : 13 ≤ d) (e65 : ∀ (a1 : Int32) (a2 : Int32) (a3 : Int32) (a4 : Int32) (a5 : Int32) (s : hq_S), q65 a1 a2 a3 a4 a5 s = some y → hq_R (mm_O xs) d mc_X12_firstGo 65 [some (.ref 174), some (.int a1), some (.int a2), some (.int a3), some (.int a4), some (.int a5)] [] s g (some (.int y.1)) y.2) (h : f_X12_firstGo_L65_B n q65 a1 a2 a3 a4 a5 s = some y) : hq_R (mm_O xs) d mc_X12_firstGo 65 [some (.ref 174), some (.int a1), some (.int a2), some (.int a3), some (.int a4), some (.int a5)] [] s g (some (.int y.1)) y.2 := by
  unfold f_X12_firstGo_L65_B at h
  refine hq_p 2 68 [some (.ref 174), some (.int a1), some (.int a2), some (.int a3), some (.int a4), some (.int a5)] [.ref 174, .int a5] (fun n h => rfl) ?_
  refine hq_gf (x := .int (hq_gi s 174 60)) rfl rfl rfl rfl rfl ?_
  by_cases c13 : a5 < (hq_gi s 174 60)
  · rw [if_pos c13] at h
    refine hq_icF rfl (hq_c_ge_F c13) ?_
    refine hq_p 1 75 [some (.ref 174), some (.int a1), some (.int a2), some (.int a3), some (.int a4), some (.int a5)] [.ref 174] (fun n h => rfl) ?_
    refine hq_gf (x := .ref 213) rfl rfl rfl rfl rfl ?_
    refine hq_p 1 80 [some (.ref 174), some (.int a1), some (.int a2), some (.int a3), some (.int a4), some (.int a5)] [.int a5, .ref 213] (fun n h => rfl) ?_
    obtain ⟨x14, hx14, h⟩ := hq_bind h
    refine hq_iaload rfl rfl List.length_replicate hx14 ?_
    refine hq_p 1 82 [some (.ref 174), some (.int a1), some (.int a2), some (.int a3), some (.int a4), some (.int a5)] [.int a3, .int x14] (fun n h => rfl) ?_
    by_cases c15 : x14 = a3
    · rw [if_pos c15] at h
      refine hq_icF rfl (hq_c_ne_F c15) ?_
      refine hq_p 1 86 [some (.ref 174), some (.int a1), some (.int a2), some (.int a3), some (.int a4), some (.int a5)] [.ref 174] (fun n h => rfl) ?_
      refine hq_gf (x := .ref 214) rfl rfl rfl rfl rfl ?_
      refine hq_p 1 91 [some (.ref 174), some (.int a1), some (.int a2), some (.int a3), some (.int a4), some (.int a5)] [.int a5, .ref 214] (fun n h => rfl) ?_
      obtain ⟨x16, hx16, h⟩ := hq_bind h
      refine hq_iaload rfl rfl List.length_replicate hx16 ?_
      have h := Option.some.inj h
      subst h
      exact ⟨1, rfl⟩
    · rw [if_neg c15] at h
      refine hq_icT rfl (hq_c_ne_T c15) ?_
      refine hq_p 2 65 [some (.ref 174), some (.int a1), some (.int a2), some (.int a3), some (.int a4), some (.int (a5 + (1 : Int32)))] [] (fun n h => rfl) ?_
      exact e65 a1 a2 a3 a4 (a5 + (1 : Int32)) s h
  · rw [if_neg c13] at h
    refine hq_icT rfl (hq_c_ge_T c13) ?_
    refine hq_bip (-2 : Int32) rfl (by decide) ?_
    have h := Option.some.inj h
    subst h
    exact ⟨1, rfl⟩
theorem f_X12_firstGo_L65_run {xs : List Int32} {n m d g : Nat} {a1 : Int32} {a2 : Int32} {a3 : Int32} {a4 : Int32} {a5 : Int32} {s : hq_S} {y : (Int32 × hq_S)} (hd : 13 ≤ d) (h : f_X12_firstGo_L65 n m a1 a2 a3 a4 a5 s = some y) : hq_R (mm_O xs) d mc_X12_firstGo 65 [some (.ref 174), some (.int a1), some (.int a2), some (.int a3), some (.int a4), some (.int a5)] [] s g (some (.int y.1)) y.2 := by
  induction m generalizing a1 a2 a3 a4 a5 s with
  | zero => cases h
  | succ m ih => exact f_X12_firstGo_L65_Brun (n := n) hd (fun a1 a2 a3 a4 a5 s h => ih h) h
def f_X12_firstGo (n : Nat) (a1 : Int32) (a2 : Int32) (a3 : Int32) (s : hq_S) : Option (Int32 × hq_S) := (hq_pi s 174 0 0 (0 : Int32)).bind fun s1 => (f_X12_areGuards n a1 s1).bind fun y2 => if y2.1 = 0 then some ((-1 : Int32), y2.2) else (f_X12_isCorner n a2 y2.2).bind fun y4 => if y4.1 = 0 then some ((-1 : Int32), y4.2) else (f_X12_isGuard n a3 y4.2).bind fun y6 => if y6.1 = 0 then some ((-1 : Int32), y6.2) else (f_X12_putsGuards n a1 y6.2).bind fun s8 => (f_X12_roundsOf n a2 s8).bind fun y9 => if 0 < y9.1 then (f_X12_laysRow n (0 : Int32) a2 y9.1 y9.2).bind fun y11 => if y11.1 = 0 then some ((-2 : Int32), y11.2) else f_X12_firstGo_L65 n n a1 a2 a3 y9.1 (0 : Int32) y11.2 else some ((-2 : Int32), y9.2)
theorem f_X12_firstGo_run {xs : List Int32} {n d g : Nat} {a1 : Int32} {a2 : Int32} {a3 : Int32} {s : hq_S} {y : (Int32 × hq_S)} (hd : 13 ≤ d) (h : f_X12_firstGo n a1 a2 a3 s = some y) : hq_R (mm_O xs) d mc_X12_firstGo 0 [some (.ref 174), some (.int a1), some (.int a2), some (.int a3), none, none] [] s g (some (.int y.1)) y.2 := by
  unfold f_X12_firstGo at h
  refine hq_p 2 2 [some (.ref 174), some (.int a1), some (.int a2), some (.int a3), none, none] [.int (0 : Int32), .ref 174] (fun n h => rfl) ?_
  obtain ⟨s1, hs1, h⟩ := hq_bind h
  refine hq_pfi rfl rfl rfl rfl rfl hs1 ?_
  refine hq_p 2 7 [some (.ref 174), some (.int a1), some (.int a2), some (.int a3), none, none] [.int a1, .ref 174] (fun n h => rfl) ?_
  obtain ⟨y2, hy2, h⟩ := hq_bind h
  refine hq_inv rfl rfl (Nat.le_trans (by decide) hd) rfl rfl (hq_rcv rfl rfl) (f_X12_areGuards_run (Nat.le_sub_of_add_le (Nat.le_trans (by decide) hd)) hy2) rfl ?_
  by_cases c3 : y2.1 = 0
  · rw [if_pos c3] at h
    refine hq_izT rfl (hq_c_eq_T c3) ?_
    refine hq_icn (-1 : Int32) rfl (by decide) ?_
    have h := Option.some.inj h
    subst h
    exact ⟨1, rfl⟩
  · rw [if_neg c3] at h
    refine hq_izF rfl (hq_c_eq_F c3) ?_
    refine hq_p 2 15 [some (.ref 174), some (.int a1), some (.int a2), some (.int a3), none, none] [.int a2, .ref 174] (fun n h => rfl) ?_
    obtain ⟨y4, hy4, h⟩ := hq_bind h
    refine hq_inv rfl rfl (Nat.le_trans (by decide) hd) rfl rfl (hq_rcv rfl rfl) (f_X12_isCorner_run (Nat.le_sub_of_add_le (Nat.le_trans (by decide) hd)) hy4) rfl ?_
    by_cases c5 : y4.1 = 0
    · rw [if_pos c5] at h
      refine hq_izT rfl (hq_c_eq_T c5) ?_
      refine hq_icn (-1 : Int32) rfl (by decide) ?_
      have h := Option.some.inj h
      subst h
      exact ⟨1, rfl⟩
    · rw [if_neg c5] at h
      refine hq_izF rfl (hq_c_eq_F c5) ?_
      refine hq_p 2 23 [some (.ref 174), some (.int a1), some (.int a2), some (.int a3), none, none] [.int a3, .ref 174] (fun n h => rfl) ?_
      obtain ⟨y6, hy6, h⟩ := hq_bind h
      refine hq_inv rfl rfl (Nat.le_trans (by decide) hd) rfl rfl (hq_rcv rfl rfl) (f_X12_isGuard_run (Nat.le_sub_of_add_le (Nat.le_trans (by decide) hd)) hy6) rfl ?_
      by_cases c7 : y6.1 = 0
      · rw [if_pos c7] at h
        refine hq_izF rfl (hq_c_ne_F c7) ?_
        refine hq_icn (-1 : Int32) rfl (by decide) ?_
        have h := Option.some.inj h
        subst h
        exact ⟨1, rfl⟩
      · rw [if_neg c7] at h
        refine hq_izT rfl (hq_c_ne_T c7) ?_
        refine hq_p 2 33 [some (.ref 174), some (.int a1), some (.int a2), some (.int a3), none, none] [.int a1, .ref 174] (fun n h => rfl) ?_
        obtain ⟨s8, hs8, h⟩ := hq_bind h
        refine hq_inv rfl rfl (Nat.le_trans (by decide) hd) rfl rfl (hq_rcv rfl rfl) (f_X12_putsGuards_run (Nat.le_sub_of_add_le (Nat.le_trans (by decide) hd)) hs8) rfl ?_
        refine hq_p 2 38 [some (.ref 174), some (.int a1), some (.int a2), some (.int a3), none, none] [.int a2, .ref 174] (fun n h => rfl) ?_
        obtain ⟨y9, hy9, h⟩ := hq_bind h
        refine hq_inv rfl rfl (Nat.le_trans (by decide) hd) rfl rfl (hq_rcv rfl rfl) (f_X12_roundsOf_run (Nat.le_sub_of_add_le (Nat.le_trans (by decide) hd)) hy9) rfl ?_
        refine hq_p 2 45 [some (.ref 174), some (.int a1), some (.int a2), some (.int a3), some (.int y9.1), none] [.int y9.1] (fun n h => rfl) ?_
        by_cases c10 : 0 < y9.1
        · rw [if_pos c10] at h
          refine hq_izF rfl (hq_c_le_F c10) ?_
          refine hq_p 4 53 [some (.ref 174), some (.int a1), some (.int a2), some (.int a3), some (.int y9.1), none] [.int y9.1, .int a2, .int (0 : Int32), .ref 174] (fun n h => rfl) ?_
          obtain ⟨y11, hy11, h⟩ := hq_bind h
          refine hq_inv rfl rfl (Nat.le_trans (by decide) hd) rfl rfl (hq_rcv rfl rfl) (f_X12_laysRow_run (Nat.le_sub_of_add_le (Nat.le_trans (by decide) hd)) hy11) rfl ?_
          by_cases c12 : y11.1 = 0
          · rw [if_pos c12] at h
            refine hq_izF rfl (hq_c_ne_F c12) ?_
            refine hq_bip (-2 : Int32) rfl (by decide) ?_
            have h := Option.some.inj h
            subst h
            exact ⟨1, rfl⟩
          · rw [if_neg c12] at h
            refine hq_izT rfl (hq_c_ne_T c12) ?_
            refine hq_p 2 65 [some (.ref 174), some (.int a1), some (.int a2), some (.int a3), some (.int y9.1), some (.int (0 : Int32))] [] (fun n h => rfl) ?_
            exact f_X12_firstGo_L65_run hd h
        · rw [if_neg c10] at h
          refine hq_izT rfl (hq_c_le_T c10) ?_
          refine hq_bip (-2 : Int32) rfl (by decide) ?_
          have h := Option.some.inj h
          subst h
          exact ⟨1, rfl⟩
def f_X12_flee_J133 (n : Nat) (q60 : Int32 → Int32 → Int32 → Int32 → Int32 → Int32 → hq_S → Option (Int32 × hq_S)) (a1 : Int32) (a2 : Int32) (a3 : Int32) (a4 : Int32) (a5 : Int32) (a6 : Int32) (s : hq_S) : Option (Int32 × hq_S) := q60 a1 a2 a3 a4 a5 (a6 + (1 : Int32)) s
theorem f_X12_flee_J133_run {xs : List Int32} {n d g : Nat} {a1 : Int32} {a2 : Int32} {a3 : Int32} {a4 : Int32} {a5 : Int32} {a6 : Int32} {o7 : Option Value} {q60 : Int32 → Int32 → Int32 → Int32 → Int32 → Int32 → hq_S → Option (Int32 × hq_S)} {s : hq_S} {y : (Int32 × hq_S)} (hd : 4 ≤ d) (e60 : ∀ (a1 : Int32) (a2 : Int32) (a3 : Int32) (a4 : Int32) (a5 : Int32) (a6 : Int32) (o7 : Option Value) (s : hq_S), q60 a1 a2 a3 a4 a5 a6 s = some y → hq_R (mm_O xs) d mc_X12_flee 60 [some (.ref 174), some (.int a1), some (.int a2), some (.int a3), some (.int a4), some (.int a5), some (.int a6), o7] [] s g (some (.int y.1)) y.2) (h : f_X12_flee_J133 n q60 a1 a2 a3 a4 a5 a6 s = some y) : hq_R (mm_O xs) d mc_X12_flee 133 [some (.ref 174), some (.int a1), some (.int a2), some (.int a3), some (.int a4), some (.int a5), some (.int a6), o7] [] s g (some (.int y.1)) y.2 := by
  unfold f_X12_flee_J133 at h
  refine hq_p 2 60 [some (.ref 174), some (.int a1), some (.int a2), some (.int a3), some (.int a4), some (.int a5), some (.int (a6 + (1 : Int32))), o7] [] (fun n h => rfl) ?_
  exact e60 a1 a2 a3 a4 a5 (a6 + (1 : Int32)) _ s h
def f_X12_flee_L60_B (n : Nat) (q60 : Int32 → Int32 → Int32 → Int32 → Int32 → Int32 → hq_S → Option (Int32 × hq_S)) (a1 : Int32) (a2 : Int32) (a3 : Int32) (a4 : Int32) (a5 : Int32) (a6 : Int32) (s : hq_S) : Option (Int32 × hq_S) := (hq_ld s 176 14 (0 : Int32)).bind fun x11 => if a6 < x11 then if ((a3 >>> (a6 &&& 31)) &&& (1 : Int32)) = 0 then f_X12_flee_J133 n q60 a1 a2 a3 a4 a5 a6 s else (f_X12_isAt n a6 s).bind fun y15 => (if y15.1 = 0 then (f_X12_roundsOf n a6 y15.2).bind fun y18 => some (y18.1, y18.2) else some ((0 : Int32), y15.2)).bind fun z16 => (if z16.1 = (-1 : Int32) then some (100000 : Int32) else some z16.1).bind fun z19 => (if a5 < z19 then some (a6, z19) else some (a4, a5)).bind fun z21 => q60 a1 a2 a3 z21.1 z21.2 (a6 + (1 : Int32)) z16.2 else some (a4, s)
def f_X12_flee_L60 (n : Nat) (m : Nat) : Int32 → Int32 → Int32 → Int32 → Int32 → Int32 → hq_S → Option (Int32 × hq_S) := Nat.rec (fun _ _ _ _ _ _ _ => none) (fun _ q => f_X12_flee_L60_B n q) m
theorem f_X12_flee_L60_Brun {xs : List Int32} {n d g : Nat} {a1 : Int32} {a2 : Int32} {a3 : Int32} {a4 : Int32} {a5 : Int32} {a6 : Int32} {o7 : Option Value} {q60 : Int32 → Int32 → Int32 → Int32 → Int32 → Int32 → hq_S → Option (Int32 × hq_S)} {s : hq_S} {y : (Int32 × hq_S)} (hd : 4 ≤ d) (e60 : ∀ (a1 : Int32) (a2 : Int32) (a3 : Int32) (a4 : Int32) (a5 : Int32) (a6 : Int32) (o7 : Option Value) (s : hq_S), q60 a1 a2 a3 a4 a5 a6 s = some y → hq_R (mm_O xs) d mc_X12_flee 60 [some (.ref 174), some (.int a1), some (.int a2), some (.int a3), some (.int a4), some (.int a5), some (.int a6), o7] [] s g (some (.int y.1)) y.2) (h : f_X12_flee_L60_B n q60 a1 a2 a3 a4 a5 a6 s = some y) : hq_R (mm_O xs) d mc_X12_flee 60 [some (.ref 174), some (.int a1), some (.int a2), some (.int a3), some (.int a4), some (.int a5), some (.int a6), o7] [] s g (some (.int y.1)) y.2 := by
  unfold f_X12_flee_L60_B at h
  refine hq_p 2 63 [some (.ref 174), some (.int a1), some (.int a2), some (.int a3), some (.int a4), some (.int a5), some (.int a6), o7] [.ref 174, .int a6] (fun n h => rfl) ?_
  refine hq_gf (x := .ref 176) rfl rfl rfl rfl rfl ?_
  refine hq_p 1 67 [some (.ref 174), some (.int a1), some (.int a2), some (.int a3), some (.int a4), some (.int a5), some (.int a6), o7] [.int (0 : Int32), .ref 176, .int a6] (fun n h => rfl) ?_
  obtain ⟨x11, hx11, h⟩ := hq_bind h
  refine hq_iaload rfl rfl rfl hx11 ?_
  by_cases c12 : a6 < x11
  · rw [if_pos c12] at h
    refine hq_icF rfl (hq_c_ge_F c12) ?_
    refine hq_p 5 77 [some (.ref 174), some (.int a1), some (.int a2), some (.int a3), some (.int a4), some (.int a5), some (.int a6), o7] [.int ((a3 >>> (a6 &&& 31)) &&& (1 : Int32))] (fun n h => rfl) ?_
    by_cases c14 : ((a3 >>> (a6 &&& 31)) &&& (1 : Int32)) = 0
    · rw [if_pos c14] at h
      refine hq_izF rfl (hq_c_ne_F c14) ?_
      refine hq_p 1 133 [some (.ref 174), some (.int a1), some (.int a2), some (.int a3), some (.int a4), some (.int a5), some (.int a6), o7] [] (fun n h => rfl) ?_
      exact f_X12_flee_J133_run hd e60 h
    · rw [if_neg c14] at h
      refine hq_izT rfl (hq_c_ne_T c14) ?_
      refine hq_p 2 86 [some (.ref 174), some (.int a1), some (.int a2), some (.int a3), some (.int a4), some (.int a5), some (.int a6), o7] [.int a6, .ref 174] (fun n h => rfl) ?_
      obtain ⟨y15, hy15, h⟩ := hq_bind h
      refine hq_inv rfl rfl (Nat.le_trans (by decide) hd) rfl rfl (hq_rcv rfl rfl) (f_X12_isAt_run (Nat.le_sub_of_add_le (Nat.le_trans (by decide) hd)) hy15) rfl ?_
      obtain ⟨z16, hz16, h⟩ := hq_bind h
      suffices hT : hq_R (mm_O xs) d mc_X12_flee 102 [some (.ref 174), some (.int a1), some (.int a2), some (.int a3), some (.int a4), some (.int a5), some (.int a6), o7] [.int z16.1] z16.2 g (some (.int y.1)) y.2 from by
        clear h
        have h := hz16
        by_cases c17 : y15.1 = 0
        · rw [if_pos c17] at h
          refine hq_izT rfl (hq_c_eq_T c17) ?_
          refine hq_p 2 99 [some (.ref 174), some (.int a1), some (.int a2), some (.int a3), some (.int a4), some (.int a5), some (.int a6), o7] [.int a6, .ref 174] (fun n h => rfl) ?_
          obtain ⟨y18, hy18, h⟩ := hq_bind h
          refine hq_inv rfl rfl (Nat.le_trans (by decide) hd) rfl rfl (hq_rcv rfl rfl) (f_X12_roundsOf_run (Nat.le_sub_of_add_le (Nat.le_trans (by decide) hd)) hy18) rfl ?_
          cases h
          exact hT
        · rw [if_neg c17] at h
          refine hq_izF rfl (hq_c_eq_F c17) ?_
          refine hq_p 2 102 [some (.ref 174), some (.int a1), some (.int a2), some (.int a3), some (.int a4), some (.int a5), some (.int a6), o7] [.int (0 : Int32)] (fun n h => rfl) ?_
          cases h
          exact hT
      refine hq_p 2 106 [some (.ref 174), some (.int a1), some (.int a2), some (.int a3), some (.int a4), some (.int a5), some (.int a6), some (.int z16.1)] [.int z16.1] (fun n h => rfl) ?_
      refine hq_icn (-1 : Int32) rfl (by decide) ?_
      obtain ⟨z19, hz19, h⟩ := hq_bind h
      suffices hT : hq_R (mm_O xs) d mc_X12_flee 115 [some (.ref 174), some (.int a1), some (.int a2), some (.int a3), some (.int a4), some (.int a5), some (.int a6), some (.int z19)] [] z16.2 g (some (.int y.1)) y.2 from by
        clear h
        have h := hz19
        by_cases c20 : z16.1 = (-1 : Int32)
        · rw [if_pos c20] at h
          refine hq_icF rfl (hq_c_ne_F c20) ?_
          refine hq_lcw (100000 : Int32) rfl (by decide) ?_
          refine hq_p 1 115 [some (.ref 174), some (.int a1), some (.int a2), some (.int a3), some (.int a4), some (.int a5), some (.int a6), some (.int (100000 : Int32))] [] (fun n h => rfl) ?_
          cases h
          exact hT
        · rw [if_neg c20] at h
          refine hq_icT rfl (hq_c_ne_T c20) ?_
          cases h
          exact hT
      refine hq_p 2 119 [some (.ref 174), some (.int a1), some (.int a2), some (.int a3), some (.int a4), some (.int a5), some (.int a6), some (.int z19)] [.int a5, .int z19] (fun n h => rfl) ?_
      obtain ⟨z21, hz21, h⟩ := hq_bind h
      suffices hT : hq_R (mm_O xs) d mc_X12_flee 133 [some (.ref 174), some (.int a1), some (.int a2), some (.int a3), some (.int z21.1), some (.int z21.2), some (.int a6), some (.int z19)] [] z16.2 g (some (.int y.1)) y.2 from by
        clear h
        have h := hz21
        by_cases c22 : a5 < z19
        · rw [if_pos c22] at h
          refine hq_icT rfl (hq_c_gt_T c22) ?_
          refine hq_p 4 133 [some (.ref 174), some (.int a1), some (.int a2), some (.int a3), some (.int a6), some (.int z19), some (.int a6), some (.int z19)] [] (fun n h => rfl) ?_
          cases h
          exact hT
        · rw [if_neg c22] at h
          refine hq_icF rfl (hq_c_gt_F c22) ?_
          refine hq_p 1 133 [some (.ref 174), some (.int a1), some (.int a2), some (.int a3), some (.int a4), some (.int a5), some (.int a6), some (.int z19)] [] (fun n h => rfl) ?_
          cases h
          exact hT
      refine hq_p 2 60 [some (.ref 174), some (.int a1), some (.int a2), some (.int a3), some (.int z21.1), some (.int z21.2), some (.int (a6 + (1 : Int32))), some (.int z19)] [] (fun n h => rfl) ?_
      exact e60 a1 a2 a3 z21.1 z21.2 (a6 + (1 : Int32)) _ z16.2 h
  · rw [if_neg c12] at h
    refine hq_icT rfl (hq_c_ge_T c12) ?_
    refine hq_p 1 141 [some (.ref 174), some (.int a1), some (.int a2), some (.int a3), some (.int a4), some (.int a5), some (.int a6), o7] [.int a4] (fun n h => rfl) ?_
    have h := Option.some.inj h
    subst h
    exact ⟨1, rfl⟩
theorem f_X12_flee_L60_run {xs : List Int32} {n m d g : Nat} {a1 : Int32} {a2 : Int32} {a3 : Int32} {a4 : Int32} {a5 : Int32} {a6 : Int32} {o7 : Option Value} {s : hq_S} {y : (Int32 × hq_S)} (hd : 4 ≤ d) (h : f_X12_flee_L60 n m a1 a2 a3 a4 a5 a6 s = some y) : hq_R (mm_O xs) d mc_X12_flee 60 [some (.ref 174), some (.int a1), some (.int a2), some (.int a3), some (.int a4), some (.int a5), some (.int a6), o7] [] s g (some (.int y.1)) y.2 := by
  induction m generalizing a1 a2 a3 a4 a5 a6 o7 s with
  | zero => cases h
  | succ m ih => exact f_X12_flee_L60_Brun (n := n) hd (fun a1 a2 a3 a4 a5 a6 o7 s h => ih h) h
def f_X12_flee (n : Nat) (a1 : Int32) (a2 : Int32) (s : hq_S) : Option (Int32 × hq_S) := (hq_pi s 174 0 0 (0 : Int32)).bind fun s1 => (f_X12_areGuards n a1 s1).bind fun y2 => if y2.1 = 0 then some ((-1 : Int32), y2.2) else (f_X12_isCorner n a2 y2.2).bind fun y4 => if y4.1 = 0 then some ((-1 : Int32), y4.2) else (f_X12_putsGuards n a1 y4.2).bind fun s6 => (f_X12_roundsOf n a2 s6).bind fun y7 => (f_X12_isAt n a2 y7.2).bind fun y8 => if y8.1 = 0 then (f_X12_stayOrGo n a2 y8.2).bind fun y10 => f_X12_flee_L60 n n a1 a2 y10.1 (-1 : Int32) (-1 : Int32) (0 : Int32) y10.2 else some ((-2 : Int32), y8.2)
theorem f_X12_flee_run {xs : List Int32} {n d g : Nat} {a1 : Int32} {a2 : Int32} {s : hq_S} {y : (Int32 × hq_S)} (hd : 4 ≤ d) (h : f_X12_flee n a1 a2 s = some y) : hq_R (mm_O xs) d mc_X12_flee 0 [some (.ref 174), some (.int a1), some (.int a2), none, none, none, none, none] [] s g (some (.int y.1)) y.2 := by
  unfold f_X12_flee at h
  refine hq_p 2 2 [some (.ref 174), some (.int a1), some (.int a2), none, none, none, none, none] [.int (0 : Int32), .ref 174] (fun n h => rfl) ?_
  obtain ⟨s1, hs1, h⟩ := hq_bind h
  refine hq_pfi rfl rfl rfl rfl rfl hs1 ?_
  refine hq_p 2 7 [some (.ref 174), some (.int a1), some (.int a2), none, none, none, none, none] [.int a1, .ref 174] (fun n h => rfl) ?_
  obtain ⟨y2, hy2, h⟩ := hq_bind h
  refine hq_inv rfl rfl (Nat.le_trans (by decide) hd) rfl rfl (hq_rcv rfl rfl) (f_X12_areGuards_run (Nat.le_sub_of_add_le (Nat.le_trans (by decide) hd)) hy2) rfl ?_
  by_cases c3 : y2.1 = 0
  · rw [if_pos c3] at h
    refine hq_izT rfl (hq_c_eq_T c3) ?_
    refine hq_icn (-1 : Int32) rfl (by decide) ?_
    have h := Option.some.inj h
    subst h
    exact ⟨1, rfl⟩
  · rw [if_neg c3] at h
    refine hq_izF rfl (hq_c_eq_F c3) ?_
    refine hq_p 2 15 [some (.ref 174), some (.int a1), some (.int a2), none, none, none, none, none] [.int a2, .ref 174] (fun n h => rfl) ?_
    obtain ⟨y4, hy4, h⟩ := hq_bind h
    refine hq_inv rfl rfl (Nat.le_trans (by decide) hd) rfl rfl (hq_rcv rfl rfl) (f_X12_isCorner_run (Nat.le_sub_of_add_le (Nat.le_trans (by decide) hd)) hy4) rfl ?_
    by_cases c5 : y4.1 = 0
    · rw [if_pos c5] at h
      refine hq_izF rfl (hq_c_ne_F c5) ?_
      refine hq_icn (-1 : Int32) rfl (by decide) ?_
      have h := Option.some.inj h
      subst h
      exact ⟨1, rfl⟩
    · rw [if_neg c5] at h
      refine hq_izT rfl (hq_c_ne_T c5) ?_
      refine hq_p 2 25 [some (.ref 174), some (.int a1), some (.int a2), none, none, none, none, none] [.int a1, .ref 174] (fun n h => rfl) ?_
      obtain ⟨s6, hs6, h⟩ := hq_bind h
      refine hq_inv rfl rfl (Nat.le_trans (by decide) hd) rfl rfl (hq_rcv rfl rfl) (f_X12_putsGuards_run (Nat.le_sub_of_add_le (Nat.le_trans (by decide) hd)) hs6) rfl ?_
      refine hq_p 2 30 [some (.ref 174), some (.int a1), some (.int a2), none, none, none, none, none] [.int a2, .ref 174] (fun n h => rfl) ?_
      obtain ⟨y7, hy7, h⟩ := hq_bind h
      refine hq_inv rfl rfl (Nat.le_trans (by decide) hd) rfl rfl (hq_rcv rfl rfl) (f_X12_roundsOf_run (Nat.le_sub_of_add_le (Nat.le_trans (by decide) hd)) hy7) rfl ?_
      refine hq_p 3 36 [some (.ref 174), some (.int a1), some (.int a2), none, none, none, none, none] [.int a2, .ref 174] (fun n h => rfl) ?_
      obtain ⟨y8, hy8, h⟩ := hq_bind h
      refine hq_inv rfl rfl (Nat.le_trans (by decide) hd) rfl rfl (hq_rcv rfl rfl) (f_X12_isAt_run (Nat.le_sub_of_add_le (Nat.le_trans (by decide) hd)) hy8) rfl ?_
      by_cases c9 : y8.1 = 0
      · rw [if_pos c9] at h
        refine hq_izT rfl (hq_c_eq_T c9) ?_
        refine hq_p 2 47 [some (.ref 174), some (.int a1), some (.int a2), none, none, none, none, none] [.int a2, .ref 174] (fun n h => rfl) ?_
        obtain ⟨y10, hy10, h⟩ := hq_bind h
        refine hq_inv rfl rfl (Nat.le_trans (by decide) hd) rfl rfl (hq_rcv rfl rfl) (f_X12_stayOrGo_run (Nat.le_sub_of_add_le (Nat.le_trans (by decide) hd)) hy10) rfl ?_
        refine hq_p 1 51 [some (.ref 174), some (.int a1), some (.int a2), some (.int y10.1), none, none, none, none] [] (fun n h => rfl) ?_
        refine hq_icn (-1 : Int32) rfl (by decide) ?_
        refine hq_p 1 54 [some (.ref 174), some (.int a1), some (.int a2), some (.int y10.1), some (.int (-1 : Int32)), none, none, none] [] (fun n h => rfl) ?_
        refine hq_icn (-1 : Int32) rfl (by decide) ?_
        refine hq_p 3 60 [some (.ref 174), some (.int a1), some (.int a2), some (.int y10.1), some (.int (-1 : Int32)), some (.int (-1 : Int32)), some (.int (0 : Int32)), none] [] (fun n h => rfl) ?_
        exact f_X12_flee_L60_run hd h
      · rw [if_neg c9] at h
        refine hq_izF rfl (hq_c_eq_F c9) ?_
        refine hq_bip (-2 : Int32) rfl (by decide) ?_
        have h := Option.some.inj h
        subst h
        exact ⟨1, rfl⟩
def f_X12_laysPosts_L65_B (n : Nat) (R0 : Int32 → hq_S → Option (Int32 × hq_S)) (q65 : Int32 → Int32 → hq_S → Option (Int32 × hq_S)) (a1 : Int32) (a2 : Int32) (s : hq_S) : Option (Int32 × hq_S) := (hq_ld s 176 14 (0 : Int32)).bind fun x5 => if a2 < x5 then (hq_st s 215 3 a1 a2).bind fun s7 => (R0 (a1 + (1 : Int32)) s7).bind fun y8 => if y8.1 = 0 then q65 a1 (a2 + (1 : Int32)) y8.2 else some ((1 : Int32), y8.2) else some ((0 : Int32), s)
def f_X12_laysPosts_L65 (n : Nat) (R0 : Int32 → hq_S → Option (Int32 × hq_S)) (m : Nat) : Int32 → Int32 → hq_S → Option (Int32 × hq_S) := Nat.rec (fun _ _ _ => none) (fun _ q => f_X12_laysPosts_L65_B n R0 q) m
theorem f_X12_laysPosts_L65_Brun {xs : List Int32} {n d g : Nat} {R0 : Int32 → hq_S → Option (Int32 × hq_S)} {a1 : Int32} {a2 : Int32} {q65 : Int32 → Int32 → hq_S → Option (Int32 × hq_S)} {s : hq_S} {y : (Int32 × hq_S)} (hd : 1 ≤ d) (E0 : ∀ (a1 : Int32) (s : hq_S) (y : (Int32 × hq_S)), R0 a1 s = some y → hq_R (mm_O xs) (d - 1) mc_X12_laysPosts 0 [some (.ref 174), some (.int a1), none] [] s g (some (.int y.1)) y.2) (e65 : ∀ (a1 : Int32) (a2 : Int32) (s : hq_S), q65 a1 a2 s = some y → hq_R (mm_O xs) d mc_X12_laysPosts 65 [some (.ref 174), some (.int a1), some (.int a2)] [] s g (some (.int y.1)) y.2) (h : f_X12_laysPosts_L65_B n R0 q65 a1 a2 s = some y) : hq_R (mm_O xs) d mc_X12_laysPosts 65 [some (.ref 174), some (.int a1), some (.int a2)] [] s g (some (.int y.1)) y.2 := by
  unfold f_X12_laysPosts_L65_B at h
  refine hq_p 2 67 [some (.ref 174), some (.int a1), some (.int a2)] [.ref 174, .int a2] (fun n h => rfl) ?_
  refine hq_gf (x := .ref 176) rfl rfl rfl rfl rfl ?_
  refine hq_p 1 71 [some (.ref 174), some (.int a1), some (.int a2)] [.int (0 : Int32), .ref 176, .int a2] (fun n h => rfl) ?_
  obtain ⟨x5, hx5, h⟩ := hq_bind h
  refine hq_iaload rfl rfl rfl hx5 ?_
  by_cases c6 : a2 < x5
  · rw [if_pos c6] at h
    refine hq_icF rfl (hq_c_ge_F c6) ?_
    refine hq_p 1 76 [some (.ref 174), some (.int a1), some (.int a2)] [.ref 174] (fun n h => rfl) ?_
    refine hq_gf (x := .ref 215) rfl rfl rfl rfl rfl ?_
    refine hq_p 2 81 [some (.ref 174), some (.int a1), some (.int a2)] [.int a2, .int a1, .ref 215] (fun n h => rfl) ?_
    obtain ⟨s7, hs7, h⟩ := hq_bind h
    refine hq_iastore rfl rfl List.length_replicate hs7 ?_
    refine hq_p 4 86 [some (.ref 174), some (.int a1), some (.int a2)] [.int (a1 + (1 : Int32)), .ref 174] (fun n h => rfl) ?_
    obtain ⟨y8, hy8, h⟩ := hq_bind h
    refine hq_inv rfl rfl (Nat.le_trans (by decide) hd) rfl rfl (hq_rcv rfl rfl) (E0 (a1 + (1 : Int32)) _ _ hy8) rfl ?_
    by_cases c9 : y8.1 = 0
    · rw [if_pos c9] at h
      refine hq_izT rfl (hq_c_eq_T c9) ?_
      refine hq_p 2 65 [some (.ref 174), some (.int a1), some (.int (a2 + (1 : Int32)))] [] (fun n h => rfl) ?_
      exact e65 a1 (a2 + (1 : Int32)) y8.2 h
    · rw [if_neg c9] at h
      refine hq_izF rfl (hq_c_eq_F c9) ?_
      refine hq_p 1 93 [some (.ref 174), some (.int a1), some (.int a2)] [.int (1 : Int32)] (fun n h => rfl) ?_
      have h := Option.some.inj h
      subst h
      exact ⟨1, rfl⟩
  · rw [if_neg c6] at h
    refine hq_icT rfl (hq_c_ge_T c6) ?_
    refine hq_p 1 101 [some (.ref 174), some (.int a1), some (.int a2)] [.int (0 : Int32)] (fun n h => rfl) ?_
    have h := Option.some.inj h
    subst h
    exact ⟨1, rfl⟩
theorem f_X12_laysPosts_L65_run {xs : List Int32} {n m d g : Nat} {R0 : Int32 → hq_S → Option (Int32 × hq_S)} {a1 : Int32} {a2 : Int32} {s : hq_S} {y : (Int32 × hq_S)} (hd : 1 ≤ d) (E0 : ∀ (a1 : Int32) (s : hq_S) (y : (Int32 × hq_S)), R0 a1 s = some y → hq_R (mm_O xs) (d - 1) mc_X12_laysPosts 0 [some (.ref 174), some (.int a1), none] [] s g (some (.int y.1)) y.2) (h : f_X12_laysPosts_L65 n R0 m a1 a2 s = some y) : hq_R (mm_O xs) d mc_X12_laysPosts 65 [some (.ref 174), some (.int a1), some (.int a2)] [] s g (some (.int y.1)) y.2 := by
  induction m generalizing a1 a2 s with
  | zero => cases h
  | succ m ih => exact f_X12_laysPosts_L65_Brun (n := n) hd E0 (fun a1 a2 s h => ih h) h
def f_X12_laysPosts_L10_B (n : Nat) (R0 : Int32 → hq_S → Option (Int32 × hq_S)) (q10 : Int32 → Int32 → hq_S → Option (Int32 × hq_S)) (a1 : Int32) (a2 : Int32) (s : hq_S) : Option (Int32 × hq_S) := (hq_ld s 176 14 (0 : Int32)).bind fun x10 => if a2 < x10 then (f_X12_codeOf n 215 a2 s).bind fun y12 => (hq_ld y12.2 208 10000 y12.1).bind fun x13 => if x13 = (-1 : Int32) then some ((0 : Int32), y12.2) else q10 a1 (a2 + (1 : Int32)) y12.2 else some ((1 : Int32), s)
def f_X12_laysPosts_L10 (n : Nat) (R0 : Int32 → hq_S → Option (Int32 × hq_S)) (m : Nat) : Int32 → Int32 → hq_S → Option (Int32 × hq_S) := Nat.rec (fun _ _ _ => none) (fun _ q => f_X12_laysPosts_L10_B n R0 q) m
theorem f_X12_laysPosts_L10_Brun {xs : List Int32} {n d g : Nat} {R0 : Int32 → hq_S → Option (Int32 × hq_S)} {a1 : Int32} {a2 : Int32} {q10 : Int32 → Int32 → hq_S → Option (Int32 × hq_S)} {s : hq_S} {y : (Int32 × hq_S)} (hd : 1 ≤ d) (E0 : ∀ (a1 : Int32) (s : hq_S) (y : (Int32 × hq_S)), R0 a1 s = some y → hq_R (mm_O xs) (d - 1) mc_X12_laysPosts 0 [some (.ref 174), some (.int a1), none] [] s g (some (.int y.1)) y.2) (e10 : ∀ (a1 : Int32) (a2 : Int32) (s : hq_S), q10 a1 a2 s = some y → hq_R (mm_O xs) d mc_X12_laysPosts 10 [some (.ref 174), some (.int a1), some (.int a2)] [] s g (some (.int y.1)) y.2) (h : f_X12_laysPosts_L10_B n R0 q10 a1 a2 s = some y) : hq_R (mm_O xs) d mc_X12_laysPosts 10 [some (.ref 174), some (.int a1), some (.int a2)] [] s g (some (.int y.1)) y.2 := by
  unfold f_X12_laysPosts_L10_B at h
  refine hq_p 2 12 [some (.ref 174), some (.int a1), some (.int a2)] [.ref 174, .int a2] (fun n h => rfl) ?_
  refine hq_gf (x := .ref 176) rfl rfl rfl rfl rfl ?_
  refine hq_p 1 16 [some (.ref 174), some (.int a1), some (.int a2)] [.int (0 : Int32), .ref 176, .int a2] (fun n h => rfl) ?_
  obtain ⟨x10, hx10, h⟩ := hq_bind h
  refine hq_iaload rfl rfl rfl hx10 ?_
  by_cases c11 : a2 < x10
  · rw [if_pos c11] at h
    refine hq_icF rfl (hq_c_ge_F c11) ?_
    refine hq_p 1 21 [some (.ref 174), some (.int a1), some (.int a2)] [.ref 174] (fun n h => rfl) ?_
    refine hq_gf (x := .ref 208) rfl rfl rfl rfl rfl ?_
    refine hq_p 2 26 [some (.ref 174), some (.int a1), some (.int a2)] [.ref 174, .ref 174, .ref 208] (fun n h => rfl) ?_
    refine hq_gf (x := .ref 215) rfl rfl rfl rfl rfl ?_
    refine hq_p 1 30 [some (.ref 174), some (.int a1), some (.int a2)] [.int a2, .ref 215, .ref 174, .ref 208] (fun n h => rfl) ?_
    obtain ⟨y12, hy12, h⟩ := hq_bind h
    refine hq_inv rfl rfl (Nat.le_trans (by decide) hd) rfl rfl (hq_rcv rfl rfl) (f_X12_codeOf_run (Nat.le_sub_of_add_le (Nat.le_trans (by decide) hd)) hy12) rfl ?_
    obtain ⟨x13, hx13, h⟩ := hq_bind h
    refine hq_iaload rfl rfl List.length_replicate hx13 ?_
    refine hq_icn (-1 : Int32) rfl (by decide) ?_
    by_cases c14 : x13 = (-1 : Int32)
    · rw [if_pos c14] at h
      refine hq_icF rfl (hq_c_ne_F c14) ?_
      refine hq_p 1 39 [some (.ref 174), some (.int a1), some (.int a2)] [.int (0 : Int32)] (fun n h => rfl) ?_
      have h := Option.some.inj h
      subst h
      exact ⟨1, rfl⟩
    · rw [if_neg c14] at h
      refine hq_icT rfl (hq_c_ne_T c14) ?_
      refine hq_p 2 10 [some (.ref 174), some (.int a1), some (.int (a2 + (1 : Int32)))] [] (fun n h => rfl) ?_
      exact e10 a1 (a2 + (1 : Int32)) y12.2 h
  · rw [if_neg c11] at h
    refine hq_icT rfl (hq_c_ge_T c11) ?_
    refine hq_p 1 47 [some (.ref 174), some (.int a1), some (.int a2)] [.int (1 : Int32)] (fun n h => rfl) ?_
    have h := Option.some.inj h
    subst h
    exact ⟨1, rfl⟩
theorem f_X12_laysPosts_L10_run {xs : List Int32} {n m d g : Nat} {R0 : Int32 → hq_S → Option (Int32 × hq_S)} {a1 : Int32} {a2 : Int32} {s : hq_S} {y : (Int32 × hq_S)} (hd : 1 ≤ d) (E0 : ∀ (a1 : Int32) (s : hq_S) (y : (Int32 × hq_S)), R0 a1 s = some y → hq_R (mm_O xs) (d - 1) mc_X12_laysPosts 0 [some (.ref 174), some (.int a1), none] [] s g (some (.int y.1)) y.2) (h : f_X12_laysPosts_L10 n R0 m a1 a2 s = some y) : hq_R (mm_O xs) d mc_X12_laysPosts 10 [some (.ref 174), some (.int a1), some (.int a2)] [] s g (some (.int y.1)) y.2 := by
  induction m generalizing a1 a2 s with
  | zero => cases h
  | succ m ih => exact f_X12_laysPosts_L10_Brun (n := n) hd E0 (fun a1 a2 s h => ih h) h
def f_X12_laysPosts_S (n : Nat) (R0 : Int32 → hq_S → Option (Int32 × hq_S)) (a1 : Int32) (s : hq_S) : Option (Int32 × hq_S) := if a1 = (hq_gi s 174 60) then f_X12_laysPosts_L10 n R0 n a1 (0 : Int32) s else (if a1 = 0 then some (0 : Int32) else (hq_ld s 215 3 (a1 - (1 : Int32))).bind fun x4 => some x4).bind fun z2 => f_X12_laysPosts_L65 n R0 n a1 z2 s
theorem f_X12_laysPosts_S_run {xs : List Int32} {n d g : Nat} {R0 : Int32 → hq_S → Option (Int32 × hq_S)} {a1 : Int32} {s : hq_S} {y : (Int32 × hq_S)} (hd : 1 ≤ d) (E0 : ∀ (a1 : Int32) (s : hq_S) (y : (Int32 × hq_S)), R0 a1 s = some y → hq_R (mm_O xs) (d - 1) mc_X12_laysPosts 0 [some (.ref 174), some (.int a1), none] [] s g (some (.int y.1)) y.2) (h : f_X12_laysPosts_S n R0 a1 s = some y) : hq_R (mm_O xs) d mc_X12_laysPosts 0 [some (.ref 174), some (.int a1), none] [] s g (some (.int y.1)) y.2 := by
  unfold f_X12_laysPosts_S at h
  refine hq_p 2 2 [some (.ref 174), some (.int a1), none] [.ref 174, .int a1] (fun n h => rfl) ?_
  refine hq_gf (x := .int (hq_gi s 174 60)) rfl rfl rfl rfl rfl ?_
  by_cases c1 : a1 = (hq_gi s 174 60)
  · rw [if_pos c1] at h
    refine hq_icF rfl (hq_c_ne_F c1) ?_
    refine hq_p 2 10 [some (.ref 174), some (.int a1), some (.int (0 : Int32))] [] (fun n h => rfl) ?_
    exact f_X12_laysPosts_L10_run hd E0 h
  · rw [if_neg c1] at h
    refine hq_icT rfl (hq_c_ne_T c1) ?_
    refine hq_p 1 49 [some (.ref 174), some (.int a1), none] [.int a1] (fun n h => rfl) ?_
    obtain ⟨z2, hz2, h⟩ := hq_bind h
    suffices hT : hq_R (mm_O xs) d mc_X12_laysPosts 64 [some (.ref 174), some (.int a1), none] [.int z2] s g (some (.int y.1)) y.2 from by
      clear h
      have h := hz2
      by_cases c3 : a1 = 0
      · rw [if_pos c3] at h
        refine hq_izF rfl (hq_c_ne_F c3) ?_
        refine hq_p 2 64 [some (.ref 174), some (.int a1), none] [.int (0 : Int32)] (fun n h => rfl) ?_
        cases h
        exact hT
      · rw [if_neg c3] at h
        refine hq_izT rfl (hq_c_ne_T c3) ?_
        refine hq_p 1 57 [some (.ref 174), some (.int a1), none] [.ref 174] (fun n h => rfl) ?_
        refine hq_gf (x := .ref 215) rfl rfl rfl rfl rfl ?_
        refine hq_p 3 63 [some (.ref 174), some (.int a1), none] [.int (a1 - (1 : Int32)), .ref 215] (fun n h => rfl) ?_
        obtain ⟨x4, hx4, h⟩ := hq_bind h
        refine hq_iaload rfl rfl List.length_replicate hx4 ?_
        cases h
        exact hT
    refine hq_p 1 65 [some (.ref 174), some (.int a1), some (.int z2)] [] (fun n h => rfl) ?_
    exact f_X12_laysPosts_L65_run hd E0 h
def f_X12_laysPosts_G (n : Nat) (k : Nat) : Nat → Int32 → hq_S → Option (Int32 × hq_S) := Nat.rec (fun _ _ _ => none) (fun _ R c a1 s => match c with
  | _ => f_X12_laysPosts_S n (R 0) a1 s) k
theorem f_X12_laysPosts_G_run {xs : List Int32} {n g : Nat} : ∀ (k d : Nat), k + 1 ≤ d → (∀ (a1 : Int32) (s : hq_S) (y : (Int32 × hq_S)), f_X12_laysPosts_G n k 0 a1 s = some y → hq_R (mm_O xs) d mc_X12_laysPosts 0 [some (.ref 174), some (.int a1), none] [] s g (some (.int y.1)) y.2) := by
  intro k
  induction k with
  | zero =>
    intro d hd
    all_goals
      intros
      next h => cases h
  | succ k ih =>
    intro d hd
    have I := ih (d - 1) (by omega)
    have I0 := I
    · intro a1 s y h
      exact f_X12_laysPosts_S_run (by omega) I0 h
def f_X12_laysPosts (n : Nat) (a1 : Int32) (s : hq_S) : Option (Int32 × hq_S) := f_X12_laysPosts_G n 10 0 a1 s
theorem f_X12_laysPosts_run {xs : List Int32} {n d g : Nat} {a1 : Int32} {s : hq_S} {y : (Int32 × hq_S)} (hd : 11 ≤ d) (h : f_X12_laysPosts n a1 s = some y) : hq_R (mm_O xs) d mc_X12_laysPosts 0 [some (.ref 174), some (.int a1), none] [] s g (some (.int y.1)) y.2 := (f_X12_laysPosts_G_run 10 d hd) a1 s y h
def f_X12_fewestPosts_L18_B (n : Nat) (q18 : Int32 → hq_S → Option (Int32 × hq_S)) (a1 : Int32) (s : hq_S) : Option (Int32 × hq_S) := if (3 : Int32) < a1 then some ((-2 : Int32), s) else (f_X12_laysChase n a1 s).bind fun s5 => (f_X12_laysPosts n (0 : Int32) s5).bind fun y6 => if y6.1 = 0 then q18 (a1 + (1 : Int32)) y6.2 else some (a1, y6.2)
def f_X12_fewestPosts_L18 (n : Nat) (m : Nat) : Int32 → hq_S → Option (Int32 × hq_S) := Nat.rec (fun _ _ => none) (fun _ q => f_X12_fewestPosts_L18_B n q) m
theorem f_X12_fewestPosts_L18_Brun {xs : List Int32} {n d g : Nat} {a1 : Int32} {q18 : Int32 → hq_S → Option (Int32 × hq_S)} {s : hq_S} {y : (Int32 × hq_S)} (hd : 12 ≤ d) (e18 : ∀ (a1 : Int32) (s : hq_S), q18 a1 s = some y → hq_R (mm_O xs) d mc_X12_fewestPosts 18 [some (.ref 174), some (.int a1)] [] s g (some (.int y.1)) y.2) (h : f_X12_fewestPosts_L18_B n q18 a1 s = some y) : hq_R (mm_O xs) d mc_X12_fewestPosts 18 [some (.ref 174), some (.int a1)] [] s g (some (.int y.1)) y.2 := by
  unfold f_X12_fewestPosts_L18_B at h
  refine hq_p 2 20 [some (.ref 174), some (.int a1)] [.int (3 : Int32), .int a1] (fun n h => rfl) ?_
  by_cases c4 : (3 : Int32) < a1
  · rw [if_pos c4] at h
    refine hq_icT rfl (hq_c_gt_T c4) ?_
    refine hq_bip (-2 : Int32) rfl (by decide) ?_
    have h := Option.some.inj h
    subst h
    exact ⟨1, rfl⟩
  · rw [if_neg c4] at h
    refine hq_icF rfl (hq_c_gt_F c4) ?_
    refine hq_p 2 25 [some (.ref 174), some (.int a1)] [.int a1, .ref 174] (fun n h => rfl) ?_
    obtain ⟨s5, hs5, h⟩ := hq_bind h
    refine hq_inv rfl rfl (Nat.le_trans (by decide) hd) rfl rfl (hq_rcv rfl rfl) (f_X12_laysChase_run (Nat.le_sub_of_add_le (Nat.le_trans (by decide) hd)) hs5) rfl ?_
    refine hq_p 2 30 [some (.ref 174), some (.int a1)] [.int (0 : Int32), .ref 174] (fun n h => rfl) ?_
    obtain ⟨y6, hy6, h⟩ := hq_bind h
    refine hq_inv rfl rfl (Nat.le_trans (by decide) hd) rfl rfl (hq_rcv rfl rfl) (f_X12_laysPosts_run (Nat.le_sub_of_add_le (Nat.le_trans (by decide) hd)) hy6) rfl ?_
    by_cases c7 : y6.1 = 0
    · rw [if_pos c7] at h
      refine hq_izT rfl (hq_c_eq_T c7) ?_
      refine hq_p 2 18 [some (.ref 174), some (.int (a1 + (1 : Int32)))] [] (fun n h => rfl) ?_
      exact e18 (a1 + (1 : Int32)) y6.2 h
    · rw [if_neg c7] at h
      refine hq_izF rfl (hq_c_eq_F c7) ?_
      refine hq_p 1 37 [some (.ref 174), some (.int a1)] [.int a1] (fun n h => rfl) ?_
      have h := Option.some.inj h
      subst h
      exact ⟨1, rfl⟩
theorem f_X12_fewestPosts_L18_run {xs : List Int32} {n m d g : Nat} {a1 : Int32} {s : hq_S} {y : (Int32 × hq_S)} (hd : 12 ≤ d) (h : f_X12_fewestPosts_L18 n m a1 s = some y) : hq_R (mm_O xs) d mc_X12_fewestPosts 18 [some (.ref 174), some (.int a1)] [] s g (some (.int y.1)) y.2 := by
  induction m generalizing a1 s with
  | zero => cases h
  | succ m ih => exact f_X12_fewestPosts_L18_Brun (n := n) hd (fun a1 s h => ih h) h
def f_X12_fewestPosts (n : Nat) (s : hq_S) : Option (Int32 × hq_S) := (hq_ld s 176 14 (0 : Int32)).bind fun x1 => if x1 = 0 then some ((0 : Int32), s) else (f_X12_lays n (0 : Int32) s).bind fun s3 => f_X12_fewestPosts_L18 n n (1 : Int32) s3
theorem f_X12_fewestPosts_run {xs : List Int32} {n d g : Nat} {s : hq_S} {y : (Int32 × hq_S)} (hd : 12 ≤ d) (h : f_X12_fewestPosts n s = some y) : hq_R (mm_O xs) d mc_X12_fewestPosts 0 [some (.ref 174), none] [] s g (some (.int y.1)) y.2 := by
  unfold f_X12_fewestPosts at h
  refine hq_p 1 1 [some (.ref 174), none] [.ref 174] (fun n h => rfl) ?_
  refine hq_gf (x := .ref 176) rfl rfl rfl rfl rfl ?_
  refine hq_p 1 5 [some (.ref 174), none] [.int (0 : Int32), .ref 176] (fun n h => rfl) ?_
  obtain ⟨x1, hx1, h⟩ := hq_bind h
  refine hq_iaload rfl rfl rfl hx1 ?_
  by_cases c2 : x1 = 0
  · rw [if_pos c2] at h
    refine hq_izF rfl (hq_c_ne_F c2) ?_
    refine hq_p 1 10 [some (.ref 174), none] [.int (0 : Int32)] (fun n h => rfl) ?_
    have h := Option.some.inj h
    subst h
    exact ⟨1, rfl⟩
  · rw [if_neg c2] at h
    refine hq_izT rfl (hq_c_ne_T c2) ?_
    refine hq_p 2 13 [some (.ref 174), none] [.int (0 : Int32), .ref 174] (fun n h => rfl) ?_
    obtain ⟨s3, hs3, h⟩ := hq_bind h
    refine hq_inv rfl rfl (Nat.le_trans (by decide) hd) rfl rfl (hq_rcv rfl rfl) (f_X12_lays_run (Nat.le_sub_of_add_le (Nat.le_trans (by decide) hd)) hs3) rfl ?_
    refine hq_p 2 18 [some (.ref 174), some (.int (1 : Int32))] [] (fun n h => rfl) ?_
    exact f_X12_fewestPosts_L18_run hd h
def f_X12_takers (n : Nat) (s : hq_S) : Option (Int32 × hq_S) := (hq_pi s 174 0 0 (0 : Int32)).bind fun s1 => (f_X12_fewestPosts n s1).bind fun y2 => some (y2.1, y2.2)
theorem f_X12_takers_run {xs : List Int32} {n d g : Nat} {s : hq_S} {y : (Int32 × hq_S)} (hd : 13 ≤ d) (h : f_X12_takers n s = some y) : hq_R (mm_O xs) d mc_X12_takers 0 [some (.ref 174)] [] s g (some (.int y.1)) y.2 := by
  unfold f_X12_takers at h
  refine hq_p 2 2 [some (.ref 174)] [.int (0 : Int32), .ref 174] (fun n h => rfl) ?_
  obtain ⟨s1, hs1, h⟩ := hq_bind h
  refine hq_pfi rfl rfl rfl rfl rfl hs1 ?_
  refine hq_p 1 6 [some (.ref 174)] [.ref 174] (fun n h => rfl) ?_
  obtain ⟨y2, hy2, h⟩ := hq_bind h
  refine hq_inv rfl rfl (Nat.le_trans (by decide) hd) rfl rfl (hq_rcv rfl rfl) (f_X12_fewestPosts_run (Nat.le_sub_of_add_le (Nat.le_trans (by decide) hd)) hy2) rfl ?_
  have h := Option.some.inj h
  subst h
  exact ⟨1, rfl⟩
def f_X12_post (n : Nat) (a1 : Int32) (s : hq_S) : Option (Int32 × hq_S) := (hq_pi s 174 0 0 (0 : Int32)).bind fun s1 => if a1 < 0 then some ((-1 : Int32), s1) else (f_X12_fewestPosts n s1).bind fun y3 => if a1 < y3.1 then (hq_ld y3.2 215 3 a1).bind fun x5 => some (x5, y3.2) else some ((-2 : Int32), y3.2)
theorem f_X12_post_run {xs : List Int32} {n d g : Nat} {a1 : Int32} {s : hq_S} {y : (Int32 × hq_S)} (hd : 13 ≤ d) (h : f_X12_post n a1 s = some y) : hq_R (mm_O xs) d mc_X12_post 0 [some (.ref 174), some (.int a1)] [] s g (some (.int y.1)) y.2 := by
  unfold f_X12_post at h
  refine hq_p 2 2 [some (.ref 174), some (.int a1)] [.int (0 : Int32), .ref 174] (fun n h => rfl) ?_
  obtain ⟨s1, hs1, h⟩ := hq_bind h
  refine hq_pfi rfl rfl rfl rfl rfl hs1 ?_
  refine hq_p 1 6 [some (.ref 174), some (.int a1)] [.int a1] (fun n h => rfl) ?_
  by_cases c2 : a1 < 0
  · rw [if_pos c2] at h
    refine hq_izF rfl (hq_c_ge_F c2) ?_
    refine hq_icn (-1 : Int32) rfl (by decide) ?_
    have h := Option.some.inj h
    subst h
    exact ⟨1, rfl⟩
  · rw [if_neg c2] at h
    refine hq_izT rfl (hq_c_ge_T c2) ?_
    refine hq_p 2 13 [some (.ref 174), some (.int a1)] [.ref 174, .int a1] (fun n h => rfl) ?_
    obtain ⟨y3, hy3, h⟩ := hq_bind h
    refine hq_inv rfl rfl (Nat.le_trans (by decide) hd) rfl rfl (hq_rcv rfl rfl) (f_X12_fewestPosts_run (Nat.le_sub_of_add_le (Nat.le_trans (by decide) hd)) hy3) rfl ?_
    by_cases c4 : a1 < y3.1
    · rw [if_pos c4] at h
      refine hq_icF rfl (hq_c_ge_F c4) ?_
      refine hq_p 1 20 [some (.ref 174), some (.int a1)] [.ref 174] (fun n h => rfl) ?_
      refine hq_gf (x := .ref 215) rfl rfl rfl rfl rfl ?_
      refine hq_p 1 24 [some (.ref 174), some (.int a1)] [.int a1, .ref 215] (fun n h => rfl) ?_
      obtain ⟨x5, hx5, h⟩ := hq_bind h
      refine hq_iaload rfl rfl List.length_replicate hx5 ?_
      refine hq_p 1 30 [some (.ref 174), some (.int a1)] [.int x5] (fun n h => rfl) ?_
      have h := Option.some.inj h
      subst h
      exact ⟨1, rfl⟩
    · rw [if_neg c4] at h
      refine hq_icT rfl (hq_c_ge_T c4) ?_
      refine hq_bip (-2 : Int32) rfl (by decide) ?_
      have h := Option.some.inj h
      subst h
      exact ⟨1, rfl⟩
def f_X12_moved_L4_B (n : Nat) (q4 : Int32 → Int32 → Int32 → hq_S → Option (Int32 × hq_S)) (a1 : Int32) (a2 : Int32) (a3 : Int32) (s : hq_S) : Option (Int32 × hq_S) := (hq_ld s 176 14 (0 : Int32)).bind fun x1 => if a3 < x1 then (if ((a1 >>> (a3 &&& 31)) &&& (1 : Int32)) = (1 : Int32) then (hq_ld s 206 10 a3).bind fun x5 => if x5 = 0 then some (a2 ||| ((1 : Int32) <<< (a3 &&& 31))) else (hq_ld s 206 10 a3).bind fun x7 => some (a2 ||| x7) else some a2).bind fun z3 => q4 a1 z3 (a3 + (1 : Int32)) s else some (a2, s)
def f_X12_moved_L4 (n : Nat) (m : Nat) : Int32 → Int32 → Int32 → hq_S → Option (Int32 × hq_S) := Nat.rec (fun _ _ _ _ => none) (fun _ q => f_X12_moved_L4_B n q) m
theorem f_X12_moved_L4_Brun {xs : List Int32} {n d g : Nat} {a1 : Int32} {a2 : Int32} {a3 : Int32} {q4 : Int32 → Int32 → Int32 → hq_S → Option (Int32 × hq_S)} {s : hq_S} {y : (Int32 × hq_S)} (hd : 0 ≤ d) (e4 : ∀ (a1 : Int32) (a2 : Int32) (a3 : Int32) (s : hq_S), q4 a1 a2 a3 s = some y → hq_R (mm_O xs) d mc_X12_moved 4 [some (.ref 174), some (.int a1), some (.int a2), some (.int a3)] [] s g (some (.int y.1)) y.2) (h : f_X12_moved_L4_B n q4 a1 a2 a3 s = some y) : hq_R (mm_O xs) d mc_X12_moved 4 [some (.ref 174), some (.int a1), some (.int a2), some (.int a3)] [] s g (some (.int y.1)) y.2 := by
  unfold f_X12_moved_L4_B at h
  refine hq_p 2 6 [some (.ref 174), some (.int a1), some (.int a2), some (.int a3)] [.ref 174, .int a3] (fun n h => rfl) ?_
  refine hq_gf (x := .ref 176) rfl rfl rfl rfl rfl ?_
  refine hq_p 1 10 [some (.ref 174), some (.int a1), some (.int a2), some (.int a3)] [.int (0 : Int32), .ref 176, .int a3] (fun n h => rfl) ?_
  obtain ⟨x1, hx1, h⟩ := hq_bind h
  refine hq_iaload rfl rfl rfl hx1 ?_
  by_cases c2 : a3 < x1
  · rw [if_pos c2] at h
    refine hq_icF rfl (hq_c_ge_F c2) ?_
    refine hq_p 6 20 [some (.ref 174), some (.int a1), some (.int a2), some (.int a3)] [.int (1 : Int32), .int ((a1 >>> (a3 &&& 31)) &&& (1 : Int32))] (fun n h => rfl) ?_
    obtain ⟨z3, hz3, h⟩ := hq_bind h
    suffices hT : hq_R (mm_O xs) d mc_X12_moved 47 [some (.ref 174), some (.int a1), some (.int z3), some (.int a3)] [] s g (some (.int y.1)) y.2 from by
      clear h
      have h := hz3
      by_cases c4 : ((a1 >>> (a3 &&& 31)) &&& (1 : Int32)) = (1 : Int32)
      · rw [if_pos c4] at h
        refine hq_icF rfl (hq_c_ne_F c4) ?_
        refine hq_p 2 25 [some (.ref 174), some (.int a1), some (.int a2), some (.int a3)] [.ref 174, .int a2] (fun n h => rfl) ?_
        refine hq_gf (x := .ref 206) rfl rfl rfl rfl rfl ?_
        refine hq_p 1 29 [some (.ref 174), some (.int a1), some (.int a2), some (.int a3)] [.int a3, .ref 206, .int a2] (fun n h => rfl) ?_
        obtain ⟨x5, hx5, h⟩ := hq_bind h
        refine hq_iaload rfl rfl List.length_replicate hx5 ?_
        by_cases c6 : x5 = 0
        · rw [if_pos c6] at h
          refine hq_izF rfl (hq_c_ne_F c6) ?_
          refine hq_p 6 47 [some (.ref 174), some (.int a1), some (.int (a2 ||| ((1 : Int32) <<< (a3 &&& 31)))), some (.int a3)] [] (fun n h => rfl) ?_
          cases h
          exact hT
        · rw [if_neg c6] at h
          refine hq_izT rfl (hq_c_ne_T c6) ?_
          refine hq_p 1 40 [some (.ref 174), some (.int a1), some (.int a2), some (.int a3)] [.ref 174, .int a2] (fun n h => rfl) ?_
          refine hq_gf (x := .ref 206) rfl rfl rfl rfl rfl ?_
          refine hq_p 1 44 [some (.ref 174), some (.int a1), some (.int a2), some (.int a3)] [.int a3, .ref 206, .int a2] (fun n h => rfl) ?_
          obtain ⟨x7, hx7, h⟩ := hq_bind h
          refine hq_iaload rfl rfl List.length_replicate hx7 ?_
          refine hq_p 2 47 [some (.ref 174), some (.int a1), some (.int (a2 ||| x7)), some (.int a3)] [] (fun n h => rfl) ?_
          cases h
          exact hT
      · rw [if_neg c4] at h
        refine hq_icT rfl (hq_c_ne_T c4) ?_
        cases h
        exact hT
    refine hq_p 2 4 [some (.ref 174), some (.int a1), some (.int z3), some (.int (a3 + (1 : Int32)))] [] (fun n h => rfl) ?_
    exact e4 a1 z3 (a3 + (1 : Int32)) s h
  · rw [if_neg c2] at h
    refine hq_icT rfl (hq_c_ge_T c2) ?_
    refine hq_p 1 54 [some (.ref 174), some (.int a1), some (.int a2), some (.int a3)] [.int a2] (fun n h => rfl) ?_
    have h := Option.some.inj h
    subst h
    exact ⟨1, rfl⟩
theorem f_X12_moved_L4_run {xs : List Int32} {n m d g : Nat} {a1 : Int32} {a2 : Int32} {a3 : Int32} {s : hq_S} {y : (Int32 × hq_S)} (hd : 0 ≤ d) (h : f_X12_moved_L4 n m a1 a2 a3 s = some y) : hq_R (mm_O xs) d mc_X12_moved 4 [some (.ref 174), some (.int a1), some (.int a2), some (.int a3)] [] s g (some (.int y.1)) y.2 := by
  induction m generalizing a1 a2 a3 s with
  | zero => cases h
  | succ m ih => exact f_X12_moved_L4_Brun (n := n) hd (fun a1 a2 a3 s h => ih h) h
def f_X12_moved (n : Nat) (a1 : Int32) (s : hq_S) : Option (Int32 × hq_S) := f_X12_moved_L4 n n a1 (0 : Int32) (0 : Int32) s
theorem f_X12_moved_run {xs : List Int32} {n d g : Nat} {a1 : Int32} {s : hq_S} {y : (Int32 × hq_S)} (hd : 0 ≤ d) (h : f_X12_moved n a1 s = some y) : hq_R (mm_O xs) d mc_X12_moved 0 [some (.ref 174), some (.int a1), none, none] [] s g (some (.int y.1)) y.2 := by
  unfold f_X12_moved at h
  refine hq_p 4 4 [some (.ref 174), some (.int a1), some (.int (0 : Int32)), some (.int (0 : Int32))] [] (fun n h => rfl) ?_
  exact f_X12_moved_L4_run hd h
def f_X12_isSwept_J48 (n : Nat) (q3 : Int32 → Int32 → Int32 → Int32 → hq_S → Option (Int32 × hq_S)) (a1 : Int32) (a2 : Int32) (a3 : Int32) (a4 : Int32) (s : hq_S) : Option (Int32 × hq_S) := q3 a1 a2 a3 (a4 + (1 : Int32)) s
theorem f_X12_isSwept_J48_run {xs : List Int32} {n d g : Nat} {a1 : Int32} {a2 : Int32} {a3 : Int32} {a4 : Int32} {q3 : Int32 → Int32 → Int32 → Int32 → hq_S → Option (Int32 × hq_S)} {s : hq_S} {y : (Int32 × hq_S)} (hd : 1 ≤ d) (e3 : ∀ (a1 : Int32) (a2 : Int32) (a3 : Int32) (a4 : Int32) (s : hq_S), q3 a1 a2 a3 a4 s = some y → hq_R (mm_O xs) d mc_X12_isSwept 3 [some (.ref 174), some (.int a1), some (.int a2), some (.int a3), some (.int a4)] [] s g (some (.int y.1)) y.2) (h : f_X12_isSwept_J48 n q3 a1 a2 a3 a4 s = some y) : hq_R (mm_O xs) d mc_X12_isSwept 48 [some (.ref 174), some (.int a1), some (.int a2), some (.int a3), some (.int a4)] [] s g (some (.int y.1)) y.2 := by
  unfold f_X12_isSwept_J48 at h
  refine hq_p 2 3 [some (.ref 174), some (.int a1), some (.int a2), some (.int a3), some (.int (a4 + (1 : Int32)))] [] (fun n h => rfl) ?_
  exact e3 a1 a2 a3 (a4 + (1 : Int32)) s h
def f_X12_isSwept_L3_B (n : Nat) (q3 : Int32 → Int32 → Int32 → Int32 → hq_S → Option (Int32 × hq_S)) (a1 : Int32) (a2 : Int32) (a3 : Int32) (a4 : Int32) (s : hq_S) : Option (Int32 × hq_S) := if a3 < a4 then some ((0 : Int32), s) else if (a4 &&& (a1 ^^^ (-1 : Int32))) = 0 then (f_X12_bitsOf n a4 s).bind fun y3 => if a2 < y3.1 then f_X12_isSwept_J48 n q3 a1 a2 a3 a4 y3.2 else (hq_ld y3.2 217 1024 (a1 &&& (a4 ^^^ (-1 : Int32)))).bind fun x5 => (hq_ld y3.2 216 1024 x5).bind fun x6 => if x6 < 0 then f_X12_isSwept_J48 n q3 a1 a2 a3 a4 y3.2 else some ((1 : Int32), y3.2) else f_X12_isSwept_J48 n q3 a1 a2 a3 a4 s
def f_X12_isSwept_L3 (n : Nat) (m : Nat) : Int32 → Int32 → Int32 → Int32 → hq_S → Option (Int32 × hq_S) := Nat.rec (fun _ _ _ _ _ => none) (fun _ q => f_X12_isSwept_L3_B n q) m
theorem f_X12_isSwept_L3_Brun {xs : List Int32} {n d g : Nat} {a1 : Int32} {a2 : Int32} {a3 : Int32} {a4 : Int32} {q3 : Int32 → Int32 → Int32 → Int32 → hq_S → Option (Int32 × hq_S)} {s : hq_S} {y : (Int32 × hq_S)} (hd : 1 ≤ d) (e3 : ∀ (a1 : Int32) (a2 : Int32) (a3 : Int32) (a4 : Int32) (s : hq_S), q3 a1 a2 a3 a4 s = some y → hq_R (mm_O xs) d mc_X12_isSwept 3 [some (.ref 174), some (.int a1), some (.int a2), some (.int a3), some (.int a4)] [] s g (some (.int y.1)) y.2) (h : f_X12_isSwept_L3_B n q3 a1 a2 a3 a4 s = some y) : hq_R (mm_O xs) d mc_X12_isSwept 3 [some (.ref 174), some (.int a1), some (.int a2), some (.int a3), some (.int a4)] [] s g (some (.int y.1)) y.2 := by
  unfold f_X12_isSwept_L3_B at h
  refine hq_p 2 6 [some (.ref 174), some (.int a1), some (.int a2), some (.int a3), some (.int a4)] [.int a3, .int a4] (fun n h => rfl) ?_
  by_cases c1 : a3 < a4
  · rw [if_pos c1] at h
    refine hq_icT rfl (hq_c_gt_T c1) ?_
    refine hq_p 1 55 [some (.ref 174), some (.int a1), some (.int a2), some (.int a3), some (.int a4)] [.int (0 : Int32)] (fun n h => rfl) ?_
    have h := Option.some.inj h
    subst h
    exact ⟨1, rfl⟩
  · rw [if_neg c1] at h
    refine hq_icF rfl (hq_c_gt_F c1) ?_
    refine hq_p 2 12 [some (.ref 174), some (.int a1), some (.int a2), some (.int a3), some (.int a4)] [.int a1, .int a4] (fun n h => rfl) ?_
    refine hq_icn (-1 : Int32) rfl (by decide) ?_
    refine hq_p 2 15 [some (.ref 174), some (.int a1), some (.int a2), some (.int a3), some (.int a4)] [.int (a4 &&& (a1 ^^^ (-1 : Int32)))] (fun n h => rfl) ?_
    by_cases c2 : (a4 &&& (a1 ^^^ (-1 : Int32))) = 0
    · rw [if_pos c2] at h
      refine hq_izF rfl (hq_c_ne_F c2) ?_
      refine hq_p 1 20 [some (.ref 174), some (.int a1), some (.int a2), some (.int a3), some (.int a4)] [.int a4] (fun n h => rfl) ?_
      obtain ⟨y3, hy3, h⟩ := hq_bind h
      refine hq_ist rfl rfl rfl (Nat.le_trans (by decide) hd) rfl (f_X12_bitsOf_run (Nat.le_sub_of_add_le (Nat.le_trans (by decide) hd)) hy3) rfl ?_
      refine hq_p 1 24 [some (.ref 174), some (.int a1), some (.int a2), some (.int a3), some (.int a4)] [.int a2, .int y3.1] (fun n h => rfl) ?_
      by_cases c4 : a2 < y3.1
      · rw [if_pos c4] at h
        refine hq_icT rfl (hq_c_gt_T c4) ?_
        exact f_X12_isSwept_J48_run hd e3 h
      · rw [if_neg c4] at h
        refine hq_icF rfl (hq_c_gt_F c4) ?_
        refine hq_p 1 28 [some (.ref 174), some (.int a1), some (.int a2), some (.int a3), some (.int a4)] [.ref 174] (fun n h => rfl) ?_
        refine hq_gf (x := .ref 216) rfl rfl rfl rfl rfl ?_
        refine hq_p 1 32 [some (.ref 174), some (.int a1), some (.int a2), some (.int a3), some (.int a4)] [.ref 174, .ref 216] (fun n h => rfl) ?_
        refine hq_gf (x := .ref 217) rfl rfl rfl rfl rfl ?_
        refine hq_p 2 38 [some (.ref 174), some (.int a1), some (.int a2), some (.int a3), some (.int a4)] [.int a4, .int a1, .ref 217, .ref 216] (fun n h => rfl) ?_
        refine hq_icn (-1 : Int32) rfl (by decide) ?_
        refine hq_p 2 41 [some (.ref 174), some (.int a1), some (.int a2), some (.int a3), some (.int a4)] [.int (a1 &&& (a4 ^^^ (-1 : Int32))), .ref 217, .ref 216] (fun n h => rfl) ?_
        obtain ⟨x5, hx5, h⟩ := hq_bind h
        refine hq_iaload rfl rfl List.length_replicate hx5 ?_
        obtain ⟨x6, hx6, h⟩ := hq_bind h
        refine hq_iaload rfl rfl List.length_replicate hx6 ?_
        by_cases c7 : x6 < 0
        · rw [if_pos c7] at h
          refine hq_izT rfl (hq_c_lt_T c7) ?_
          exact f_X12_isSwept_J48_run hd e3 h
        · rw [if_neg c7] at h
          refine hq_izF rfl (hq_c_lt_F c7) ?_
          refine hq_p 1 47 [some (.ref 174), some (.int a1), some (.int a2), some (.int a3), some (.int a4)] [.int (1 : Int32)] (fun n h => rfl) ?_
          have h := Option.some.inj h
          subst h
          exact ⟨1, rfl⟩
    · rw [if_neg c2] at h
      refine hq_izT rfl (hq_c_ne_T c2) ?_
      exact f_X12_isSwept_J48_run hd e3 h
theorem f_X12_isSwept_L3_run {xs : List Int32} {n m d g : Nat} {a1 : Int32} {a2 : Int32} {a3 : Int32} {a4 : Int32} {s : hq_S} {y : (Int32 × hq_S)} (hd : 1 ≤ d) (h : f_X12_isSwept_L3 n m a1 a2 a3 a4 s = some y) : hq_R (mm_O xs) d mc_X12_isSwept 3 [some (.ref 174), some (.int a1), some (.int a2), some (.int a3), some (.int a4)] [] s g (some (.int y.1)) y.2 := by
  induction m generalizing a1 a2 a3 a4 s with
  | zero => cases h
  | succ m ih => exact f_X12_isSwept_L3_Brun (n := n) hd (fun a1 a2 a3 a4 s h => ih h) h
def f_X12_isSwept (n : Nat) (a1 : Int32) (a2 : Int32) (a3 : Int32) (s : hq_S) : Option (Int32 × hq_S) := f_X12_isSwept_L3 n n a1 a2 a3 (0 : Int32) s
theorem f_X12_isSwept_run {xs : List Int32} {n d g : Nat} {a1 : Int32} {a2 : Int32} {a3 : Int32} {s : hq_S} {y : (Int32 × hq_S)} (hd : 1 ≤ d) (h : f_X12_isSwept n a1 a2 a3 s = some y) : hq_R (mm_O xs) d mc_X12_isSwept 0 [some (.ref 174), some (.int a1), some (.int a2), some (.int a3), none] [] s g (some (.int y.1)) y.2 := by
  unfold f_X12_isSwept at h
  refine hq_p 2 3 [some (.ref 174), some (.int a1), some (.int a2), some (.int a3), some (.int (0 : Int32))] [] (fun n h => rfl) ?_
  exact f_X12_isSwept_L3_run hd h
