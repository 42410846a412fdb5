def f_X12_laysNights_L128_B (n : Nat) (q67 : Int32 → Int32 → Int32 → Int32 → hq_S → Option hq_S) (q128 : Int32 → Int32 → Int32 → Int32 → Int32 → hq_S → Option hq_S) (a1 : Int32) (a2 : Int32) (a3 : Int32) (a4 : Int32) (a5 : Int32) (s : hq_S) : Option hq_S := if a2 < a5 then q67 a1 a2 a3 (a4 + (1 : Int32)) s else (hq_ld s 216 1024 a5).bind fun x6 => (if x6 = (-a4) then (hq_st s 216 1024 a5 a4).bind fun s9 => some s9 else some s).bind fun z7 => q128 a1 a2 a3 a4 (a5 + (1 : Int32)) z7
def f_X12_laysNights_L128 (n : Nat) (q67 : Int32 → Int32 → Int32 → Int32 → hq_S → Option hq_S) (m : Nat) : Int32 → Int32 → Int32 → Int32 → Int32 → hq_S → Option hq_S := Nat.rec (fun _ _ _ _ _ _ => none) (fun _ q => f_X12_laysNights_L128_B n q67 q) m
theorem f_X12_laysNights_L128_Brun {xs : List Int32} {n d g : Nat} {a1 : Int32} {a2 : Int32} {a3 : Int32} {a4 : Int32} {a5 : Int32} {q67 : Int32 → Int32 → Int32 → Int32 → hq_S → Option hq_S} {q128 : Int32 → Int32 → Int32 → Int32 → Int32 → hq_S → Option hq_S} {s : hq_S} {y : hq_S} (hd : 2 ≤ d) (e67 : ∀ (a1 : Int32) (a2 : Int32) (a3 : Int32) (a4 : Int32) (o5 : Option Value) (s : hq_S), q67 a1 a2 a3 a4 s = some y → hq_R (mm_O xs) d mc_X12_laysNights 67 [some (.ref 174), some (.int a1), some (.int a2), some (.int a3), some (.int a4), o5] [] s g none y) (e128 : ∀ (a1 : Int32) (a2 : Int32) (a3 : Int32) (a4 : Int32) (a5 : Int32) (s : hq_S), q128 a1 a2 a3 a4 a5 s = some y → hq_R (mm_O xs) d mc_X12_laysNights 128 [some (.ref 174), some (.int a1), some (.int a2), some (.int a3), some (.int a4), some (.int a5)] [] s g none y) (h : f_X12_laysNights_L128_B n q67 q128 a1 a2 a3 a4 a5 s = some y) : hq_R (mm_O xs) d mc_X12_laysNights 128 [some (.ref 174), some (.int a1), some (.int a2), some (.int a3), some (.int a4), some (.int a5)] [] s g none y := by
  unfold f_X12_laysNights_L128_B at h
  refine hq_p 2 131 [some (.ref 174), some (.int a1), some (.int a2), some (.int a3), some (.int a4), some (.int a5)] [.int a2, .int a5] (fun n h => rfl) ?_
  by_cases c5 : a2 < a5
  · rw [if_pos c5] at h
    refine hq_icT rfl (hq_c_gt_T c5) ?_
    refine hq_p 2 67 [some (.ref 174), some (.int a1), some (.int a2), some (.int a3), some (.int (a4 + (1 : Int32))), some (.int a5)] [] (fun n h => rfl) ?_
    exact e67 a1 a2 a3 (a4 + (1 : Int32)) _ s h
  · rw [if_neg c5] at h
    refine hq_icF rfl (hq_c_gt_F c5) ?_
    refine hq_p 1 135 [some (.ref 174), some (.int a1), some (.int a2), some (.int a3), some (.int a4), some (.int a5)] [.ref 174] (fun n h => rfl) ?_
    refine hq_gf (x := .ref 216) rfl rfl rfl rfl rfl ?_
    refine hq_p 1 140 [some (.ref 174), some (.int a1), some (.int a2), some (.int a3), some (.int a4), some (.int a5)] [.int a5, .ref 216] (fun n h => rfl) ?_
    obtain ⟨x6, hx6, h⟩ := hq_bind h
    refine hq_iaload rfl rfl List.length_replicate hx6 ?_
    refine hq_p 2 144 [some (.ref 174), some (.int a1), some (.int a2), some (.int a3), some (.int a4), some (.int a5)] [.int (-a4), .int x6] (fun n h => rfl) ?_
    obtain ⟨z7, hz7, h⟩ := hq_bind h
    suffices hT : hq_R (mm_O xs) d mc_X12_laysNights 156 [some (.ref 174), some (.int a1), some (.int a2), some (.int a3), some (.int a4), some (.int a5)] [] z7 g none y from by
      clear h
      have h := hz7
      by_cases c8 : x6 = (-a4)
      · rw [if_pos c8] at h
        refine hq_icF rfl (hq_c_ne_F c8) ?_
        refine hq_p 1 148 [some (.ref 174), some (.int a1), some (.int a2), some (.int a3), some (.int a4), some (.int a5)] [.ref 174] (fun n h => rfl) ?_
        refine hq_gf (x := .ref 216) rfl rfl rfl rfl rfl ?_
        refine hq_p 2 155 [some (.ref 174), some (.int a1), some (.int a2), some (.int a3), some (.int a4), some (.int a5)] [.int a4, .int a5, .ref 216] (fun n h => rfl) ?_
        obtain ⟨s9, hs9, h⟩ := hq_bind h
        refine hq_iastore rfl rfl List.length_replicate hs9 ?_
        cases h
        exact hT
      · rw [if_neg c8] at h
        refine hq_icT rfl (hq_c_ne_T c8) ?_
        cases h
        exact hT
    refine hq_p 2 128 [some (.ref 174), some (.int a1), some (.int a2), some (.int a3), some (.int a4), some (.int (a5 + (1 : Int32)))] [] (fun n h => rfl) ?_
    exact e128 a1 a2 a3 a4 (a5 + (1 : Int32)) z7 h
theorem f_X12_laysNights_L128_run {xs : List Int32} {n m d g : Nat} {a1 : Int32} {a2 : Int32} {a3 : Int32} {a4 : Int32} {a5 : Int32} {q67 : Int32 → Int32 → Int32 → Int32 → hq_S → Option hq_S} {s : hq_S} {y : hq_S} (hd : 2 ≤ d) (e67 : ∀ (a1 : Int32) (a2 : Int32) (a3 : Int32) (a4 : Int32) (o5 : Option Value) (s : hq_S), q67 a1 a2 a3 a4 s = some y → hq_R (mm_O xs) d mc_X12_laysNights 67 [some (.ref 174), some (.int a1), some (.int a2), some (.int a3), some (.int a4), o5] [] s g none y) (h : f_X12_laysNights_L128 n q67 m a1 a2 a3 a4 a5 s = some y) : hq_R (mm_O xs) d mc_X12_laysNights 128 [some (.ref 174), some (.int a1), some (.int a2), some (.int a3), some (.int a4), some (.int a5)] [] s g none y := by
  induction m generalizing a1 a2 a3 a4 a5 s with
  | zero => cases h
  | succ m ih => exact f_X12_laysNights_L128_Brun (n := n) hd e67 (fun a1 a2 a3 a4 a5 s h => ih h) h
def f_X12_laysNights_L76_B (n : Nat) (q67 : Int32 → Int32 → Int32 → Int32 → hq_S → Option hq_S) (q76 : Int32 → Int32 → Int32 → Int32 → Int32 → hq_S → Option hq_S) (a1 : Int32) (a2 : Int32) (a3 : Int32) (a4 : Int32) (a5 : Int32) (s : hq_S) : Option hq_S := if a2 < a5 then f_X12_laysNights_L128 n q67 n a1 a2 a3 a4 (1 : Int32) s else (hq_ld s 216 1024 a5).bind fun x10 => (if x10 = (-1 : Int32) then (f_X12_isSwept n a5 a1 a2 s).bind fun y13 => if y13.1 = 0 then some (a3, y13.2) else (hq_st y13.2 216 1024 a5 (-a4)).bind fun s15 => some ((1 : Int32), s15) else some (a3, s)).bind fun z11 => q76 a1 a2 z11.1 a4 (a5 + (1 : Int32)) z11.2
def f_X12_laysNights_L76 (n : Nat) (q67 : Int32 → Int32 → Int32 → Int32 → hq_S → Option hq_S) (m : Nat) : Int32 → Int32 → Int32 → Int32 → Int32 → hq_S → Option hq_S := Nat.rec (fun _ _ _ _ _ _ => none) (fun _ q => f_X12_laysNights_L76_B n q67 q) m
theorem f_X12_laysNights_L76_Brun {xs : List Int32} {n d g : Nat} {a1 : Int32} {a2 : Int32} {a3 : Int32} {a4 : Int32} {a5 : Int32} {q67 : Int32 → Int32 → Int32 → Int32 → hq_S → Option hq_S} {q76 : Int32 → Int32 → Int32 → Int32 → Int32 → hq_S → Option hq_S} {s : hq_S} {y : hq_S} (hd : 2 ≤ d) (e67 : ∀ (a1 : Int32) (a2 : Int32) (a3 : Int32) (a4 : Int32) (o5 : Option Value) (s : hq_S), q67 a1 a2 a3 a4 s = some y → hq_R (mm_O xs) d mc_X12_laysNights 67 [some (.ref 174), some (.int a1), some (.int a2), some (.int a3), some (.int a4), o5] [] s g none y) (e76 : ∀ (a1 : Int32) (a2 : Int32) (a3 : Int32) (a4 : Int32) (a5 : Int32) (s : hq_S), q76 a1 a2 a3 a4 a5 s = some y → hq_R (mm_O xs) d mc_X12_laysNights 76 [some (.ref 174), some (.int a1), some (.int a2), some (.int a3), some (.int a4), some (.int a5)] [] s g none y) (h : f_X12_laysNights_L76_B n q67 q76 a1 a2 a3 a4 a5 s = some y) : hq_R (mm_O xs) d mc_X12_laysNights 76 [some (.ref 174), some (.int a1), some (.int a2), some (.int a3), some (.int a4), some (.int a5)] [] s g none y := by
  unfold f_X12_laysNights_L76_B at h
  refine hq_p 2 79 [some (.ref 174), some (.int a1), some (.int a2), some (.int a3), some (.int a4), some (.int a5)] [.int a2, .int a5] (fun n h => rfl) ?_
  by_cases c4 : a2 < a5
  · rw [if_pos c4] at h
    refine hq_icT rfl (hq_c_gt_T c4) ?_
    refine hq_p 2 128 [some (.ref 174), some (.int a1), some (.int a2), some (.int a3), some (.int a4), some (.int (1 : Int32))] [] (fun n h => rfl) ?_
    exact f_X12_laysNights_L128_run hd e67 h
  · rw [if_neg c4] at h
    refine hq_icF rfl (hq_c_gt_F c4) ?_
    refine hq_p 1 83 [some (.ref 174), some (.int a1), some (.int a2), some (.int a3), some (.int a4), some (.int a5)] [.ref 174] (fun n h => rfl) ?_
    refine hq_gf (x := .ref 216) rfl rfl rfl rfl rfl ?_
    refine hq_p 1 88 [some (.ref 174), some (.int a1), some (.int a2), some (.int a3), some (.int a4), some (.int a5)] [.int a5, .ref 216] (fun n h => rfl) ?_
    obtain ⟨x10, hx10, h⟩ := hq_bind h
    refine hq_iaload rfl rfl List.length_replicate hx10 ?_
    refine hq_icn (-1 : Int32) rfl (by decide) ?_
    obtain ⟨z11, hz11, h⟩ := hq_bind h
    suffices hT : hq_R (mm_O xs) d mc_X12_laysNights 119 [some (.ref 174), some (.int a1), some (.int a2), some (.int z11.1), some (.int a4), some (.int a5)] [] z11.2 g none y from by
      clear h
      have h := hz11
      by_cases c12 : x10 = (-1 : Int32)
      · rw [if_pos c12] at h
        refine hq_icF rfl (hq_c_ne_F c12) ?_
        refine hq_p 4 98 [some (.ref 174), some (.int a1), some (.int a2), some (.int a3), some (.int a4), some (.int a5)] [.int a2, .int a1, .int a5, .ref 174] (fun n h => rfl) ?_
        obtain ⟨y13, hy13, h⟩ := hq_bind h
        refine hq_inv rfl rfl (Nat.le_trans (by decide) hd) rfl rfl (hq_rcv rfl rfl) (f_X12_isSwept_run (Nat.le_sub_of_add_le (Nat.le_trans (by decide) hd)) hy13) rfl ?_
        by_cases c14 : y13.1 = 0
        · rw [if_pos c14] at h
          refine hq_izF rfl (hq_c_ne_F c14) ?_
          refine hq_p 1 119 [some (.ref 174), some (.int a1), some (.int a2), some (.int a3), some (.int a4), some (.int a5)] [] (fun n h => rfl) ?_
          cases h
          exact hT
        · rw [if_neg c14] at h
          refine hq_izT rfl (hq_c_ne_T c14) ?_
          refine hq_p 1 108 [some (.ref 174), some (.int a1), some (.int a2), some (.int a3), some (.int a4), some (.int a5)] [.ref 174] (fun n h => rfl) ?_
          refine hq_gf (x := .ref 216) rfl rfl rfl rfl rfl ?_
          refine hq_p 3 116 [some (.ref 174), some (.int a1), some (.int a2), some (.int a3), some (.int a4), some (.int a5)] [.int (-a4), .int a5, .ref 216] (fun n h => rfl) ?_
          obtain ⟨s15, hs15, h⟩ := hq_bind h
          refine hq_iastore rfl rfl List.length_replicate hs15 ?_
          refine hq_p 2 119 [some (.ref 174), some (.int a1), some (.int a2), some (.int (1 : Int32)), some (.int a4), some (.int a5)] [] (fun n h => rfl) ?_
          cases h
          exact hT
      · rw [if_neg c12] at h
        refine hq_icT rfl (hq_c_ne_T c12) ?_
        cases h
        exact hT
    refine hq_p 2 76 [some (.ref 174), some (.int a1), some (.int a2), some (.int z11.1), some (.int a4), some (.int (a5 + (1 : Int32)))] [] (fun n h => rfl) ?_
    exact e76 a1 a2 z11.1 a4 (a5 + (1 : Int32)) z11.2 h
theorem f_X12_laysNights_L76_run {xs : List Int32} {n m d g : Nat} {a1 : Int32} {a2 : Int32} {a3 : Int32} {a4 : Int32} {a5 : Int32} {q67 : Int32 → Int32 → Int32 → Int32 → hq_S → Option hq_S} {s : hq_S} {y : hq_S} (hd : 2 ≤ d) (e67 : ∀ (a1 : Int32) (a2 : Int32) (a3 : Int32) (a4 : Int32) (o5 : Option Value) (s : hq_S), q67 a1 a2 a3 a4 s = some y → hq_R (mm_O xs) d mc_X12_laysNights 67 [some (.ref 174), some (.int a1), some (.int a2), some (.int a3), some (.int a4), o5] [] s g none y) (h : f_X12_laysNights_L76 n q67 m a1 a2 a3 a4 a5 s = some y) : hq_R (mm_O xs) d mc_X12_laysNights 76 [some (.ref 174), some (.int a1), some (.int a2), some (.int a3), some (.int a4), some (.int a5)] [] s g none y := by
  induction m generalizing a1 a2 a3 a4 a5 s with
  | zero => cases h
  | succ m ih => exact f_X12_laysNights_L76_Brun (n := n) hd e67 (fun a1 a2 a3 a4 a5 s h => ih h) h
def f_X12_laysNights_L67_B (n : Nat) (q67 : Int32 → Int32 → Int32 → Int32 → hq_S → Option hq_S) (a1 : Int32) (a2 : Int32) (a3 : Int32) (a4 : Int32) (s : hq_S) : Option hq_S := if a3 = 0 then some s else f_X12_laysNights_L76 n q67 n a1 a2 (0 : Int32) a4 (1 : Int32) s
def f_X12_laysNights_L67 (n : Nat) (m : Nat) : Int32 → Int32 → Int32 → Int32 → hq_S → Option hq_S := Nat.rec (fun _ _ _ _ _ => none) (fun _ q => f_X12_laysNights_L67_B n q) m
theorem f_X12_laysNights_L67_Brun {xs : List Int32} {n d g : Nat} {a1 : Int32} {a2 : Int32} {a3 : Int32} {a4 : Int32} {o5 : Option Value} {q67 : Int32 → Int32 → Int32 → Int32 → hq_S → Option hq_S} {s : hq_S} {y : hq_S} (hd : 2 ≤ d) (e67 : ∀ (a1 : Int32) (a2 : Int32) (a3 : Int32) (a4 : Int32) (o5 : Option Value) (s : hq_S), q67 a1 a2 a3 a4 s = some y → hq_R (mm_O xs) d mc_X12_laysNights 67 [some (.ref 174), some (.int a1), some (.int a2), some (.int a3), some (.int a4), o5] [] s g none y) (h : f_X12_laysNights_L67_B n q67 a1 a2 a3 a4 s = some y) : hq_R (mm_O xs) d mc_X12_laysNights 67 [some (.ref 174), some (.int a1), some (.int a2), some (.int a3), some (.int a4), o5] [] s g none y := by
  unfold f_X12_laysNights_L67_B at h
  refine hq_p 1 68 [some (.ref 174), some (.int a1), some (.int a2), some (.int a3), some (.int a4), o5] [.int a3] (fun n h => rfl) ?_
  by_cases c3 : a3 = 0
  · rw [if_pos c3] at h
    refine hq_izT rfl (hq_c_eq_T c3) ?_
    have h := Option.some.inj h
    subst h
    exact ⟨1, rfl⟩
  · rw [if_neg c3] at h
    refine hq_izF rfl (hq_c_eq_F c3) ?_
    refine hq_p 4 76 [some (.ref 174), some (.int a1), some (.int a2), some (.int (0 : Int32)), some (.int a4), some (.int (1 : Int32))] [] (fun n h => rfl) ?_
    exact f_X12_laysNights_L76_run hd e67 h
theorem f_X12_laysNights_L67_run {xs : List Int32} {n m d g : Nat} {a1 : Int32} {a2 : Int32} {a3 : Int32} {a4 : Int32} {o5 : Option Value} {s : hq_S} {y : hq_S} (hd : 2 ≤ d) (h : f_X12_laysNights_L67 n m a1 a2 a3 a4 s = some y) : hq_R (mm_O xs) d mc_X12_laysNights 67 [some (.ref 174), some (.int a1), some (.int a2), some (.int a3), some (.int a4), o5] [] s g none y := by
  induction m generalizing a1 a2 a3 a4 o5 s with
  | zero => cases h
  | succ m ih => exact f_X12_laysNights_L67_Brun (n := n) hd (fun a1 a2 a3 a4 o5 s h => ih h) h
def f_X12_laysNights_L13_B (n : Nat) (q13 : Int32 → Int32 → Int32 → hq_S → Option hq_S) (a1 : Int32) (a2 : Int32) (a3 : Int32) (s : hq_S) : Option hq_S := if a2 < a3 then f_X12_laysNights_L67 n n a1 a2 (1 : Int32) (2 : Int32) s else (f_X12_moved n a3 s).bind fun y16 => (hq_st y16.2 217 1024 a3 y16.1).bind fun s17 => (if a3 = 0 then some ((0 : Int32), s17) else (f_X12_bitsOf n a3 s17).bind fun y20 => if a1 < y20.1 then some ((-1 : Int32), y20.2) else some ((1 : Int32), y20.2)).bind fun z18 => (hq_st z18.2 216 1024 a3 z18.1).bind fun s22 => q13 a1 a2 (a3 + (1 : Int32)) s22
def f_X12_laysNights_L13 (n : Nat) (m : Nat) : Int32 → Int32 → Int32 → hq_S → Option hq_S := Nat.rec (fun _ _ _ _ => none) (fun _ q => f_X12_laysNights_L13_B n q) m
theorem f_X12_laysNights_L13_Brun {xs : List Int32} {n d g : Nat} {a1 : Int32} {a2 : Int32} {a3 : Int32} {q13 : Int32 → Int32 → Int32 → hq_S → Option hq_S} {s : hq_S} {y : hq_S} (hd : 2 ≤ d) (e13 : ∀ (a1 : Int32) (a2 : Int32) (a3 : Int32) (s : hq_S), q13 a1 a2 a3 s = some y → hq_R (mm_O xs) d mc_X12_laysNights 13 [some (.ref 174), some (.int a1), some (.int a2), some (.int a3), none, none] [] s g none y) (h : f_X12_laysNights_L13_B n q13 a1 a2 a3 s = some y) : hq_R (mm_O xs) d mc_X12_laysNights 13 [some (.ref 174), some (.int a1), some (.int a2), some (.int a3), none, none] [] s g none y := by
  unfold f_X12_laysNights_L13_B at h
  refine hq_p 2 15 [some (.ref 174), some (.int a1), some (.int a2), some (.int a3), none, none] [.int a2, .int a3] (fun n h => rfl) ?_
  by_cases c2 : a2 < a3
  · rw [if_pos c2] at h
    refine hq_icT rfl (hq_c_gt_T c2) ?_
    refine hq_p 4 67 [some (.ref 174), some (.int a1), some (.int a2), some (.int (1 : Int32)), some (.int (2 : Int32)), none] [] (fun n h => rfl) ?_
    exact f_X12_laysNights_L67_run hd h
  · rw [if_neg c2] at h
    refine hq_icF rfl (hq_c_gt_F c2) ?_
    refine hq_p 1 19 [some (.ref 174), some (.int a1), some (.int a2), some (.int a3), none, none] [.ref 174] (fun n h => rfl) ?_
    refine hq_gf (x := .ref 217) rfl rfl rfl rfl rfl ?_
    refine hq_p 3 25 [some (.ref 174), some (.int a1), some (.int a2), some (.int a3), none, none] [.int a3, .ref 174, .int a3, .ref 217] (fun n h => rfl) ?_
    obtain ⟨y16, hy16, h⟩ := hq_bind h
    refine hq_inv rfl rfl (Nat.le_trans (by decide) hd) rfl rfl (hq_rcv rfl rfl) (f_X12_moved_run (Nat.le_sub_of_add_le (Nat.le_trans (by decide) hd)) hy16) rfl ?_
    obtain ⟨s17, hs17, h⟩ := hq_bind h
    refine hq_iastore rfl rfl List.length_replicate hs17 ?_
    refine hq_p 1 30 [some (.ref 174), some (.int a1), some (.int a2), some (.int a3), none, none] [.ref 174] (fun n h => rfl) ?_
    refine hq_gf (x := .ref 216) rfl rfl rfl rfl rfl ?_
    refine hq_p 2 35 [some (.ref 174), some (.int a1), some (.int a2), some (.int a3), none, none] [.int a3, .int a3, .ref 216] (fun n h => rfl) ?_
    obtain ⟨z18, hz18, h⟩ := hq_bind h
    suffices hT : hq_R (mm_O xs) d mc_X12_laysNights 55 [some (.ref 174), some (.int a1), some (.int a2), some (.int a3), none, none] [.int z18.1, .int a3, .ref 216] z18.2 g none y from by
      clear h
      have h := hz18
      by_cases c19 : a3 = 0
      · rw [if_pos c19] at h
        refine hq_izF rfl (hq_c_ne_F c19) ?_
        refine hq_p 2 55 [some (.ref 174), some (.int a1), some (.int a2), some (.int a3), none, none] [.int (0 : Int32), .int a3, .ref 216] (fun n h => rfl) ?_
        cases h
        exact hT
      · rw [if_neg c19] at h
        refine hq_izT rfl (hq_c_ne_T c19) ?_
        refine hq_p 1 43 [some (.ref 174), some (.int a1), some (.int a2), some (.int a3), none, none] [.int a3, .int a3, .ref 216] (fun n h => rfl) ?_
        obtain ⟨y20, hy20, h⟩ := hq_bind h
        refine hq_ist rfl rfl rfl (Nat.le_trans (by decide) hd) rfl (f_X12_bitsOf_run (Nat.le_sub_of_add_le (Nat.le_trans (by decide) hd)) hy20) rfl ?_
        refine hq_p 1 47 [some (.ref 174), some (.int a1), some (.int a2), some (.int a3), none, none] [.int a1, .int y20.1, .int a3, .ref 216] (fun n h => rfl) ?_
        by_cases c21 : a1 < y20.1
        · rw [if_pos c21] at h
          refine hq_icT rfl (hq_c_gt_T c21) ?_
          refine hq_icn (-1 : Int32) rfl (by decide) ?_
          cases h
          exact hT
        · rw [if_neg c21] at h
          refine hq_icF rfl (hq_c_gt_F c21) ?_
          refine hq_p 2 55 [some (.ref 174), some (.int a1), some (.int a2), some (.int a3), none, none] [.int (1 : Int32), .int a3, .ref 216] (fun n h => rfl) ?_
          cases h
          exact hT
    obtain ⟨s22, hs22, h⟩ := hq_bind h
    refine hq_iastore rfl rfl List.length_replicate hs22 ?_
    refine hq_p 2 13 [some (.ref 174), some (.int a1), some (.int a2), some (.int (a3 + (1 : Int32))), none, none] [] (fun n h => rfl) ?_
    exact e13 a1 a2 (a3 + (1 : Int32)) s22 h
theorem f_X12_laysNights_L13_run {xs : List Int32} {n m d g : Nat} {a1 : Int32} {a2 : Int32} {a3 : Int32} {s : hq_S} {y : hq_S} (hd : 2 ≤ d) (h : f_X12_laysNights_L13 n m a1 a2 a3 s = some y) : hq_R (mm_O xs) d mc_X12_laysNights 13 [some (.ref 174), some (.int a1), some (.int a2), some (.int a3), none, none] [] s g none y := by
  induction m generalizing a1 a2 a3 s with
  | zero => cases h
  | succ m ih => exact f_X12_laysNights_L13_Brun (n := n) hd (fun a1 a2 a3 s h => ih h) h
def f_X12_laysNights (n : Nat) (a1 : Int32) (s : hq_S) : Option hq_S := (hq_ld s 176 14 (0 : Int32)).bind fun x1 => f_X12_laysNights_L13 n n a1 (((1 : Int32) <<< (x1 &&& 31)) - (1 : Int32)) (0 : Int32) s
theorem f_X12_laysNights_run {xs : List Int32} {n d g : Nat} {a1 : Int32} {s : hq_S} {y : hq_S} (hd : 2 ≤ d) (h : f_X12_laysNights n a1 s = some y) : hq_R (mm_O xs) d mc_X12_laysNights 0 [some (.ref 174), some (.int a1), none, none, none, none] [] s g none y := by
  unfold f_X12_laysNights at h
  refine hq_p 2 2 [some (.ref 174), some (.int a1), none, none, none, none] [.ref 174, .int (1 : Int32)] (fun n h => rfl) ?_
  refine hq_gf (x := .ref 176) rfl rfl rfl rfl rfl ?_
  refine hq_p 1 6 [some (.ref 174), some (.int a1), none, none, none, none] [.int (0 : Int32), .ref 176, .int (1 : Int32)] (fun n h => rfl) ?_
  obtain ⟨x1, hx1, h⟩ := hq_bind h
  refine hq_iaload rfl rfl rfl hx1 ?_
  refine hq_p 6 13 [some (.ref 174), some (.int a1), some (.int (((1 : Int32) <<< (x1 &&& 31)) - (1 : Int32))), some (.int (0 : Int32)), none, none] [] (fun n h => rfl) ?_
  exact f_X12_laysNights_L13_run hd h
def f_X12_sweepOf (n : Nat) (a1 : Int32) (s : hq_S) : Option (Int32 × hq_S) := (f_X12_lays n (0 : Int32) s).bind fun s1 => (f_X12_laysNights n a1 s1).bind fun s2 => (hq_ld s2 176 14 (0 : Int32)).bind fun x3 => (hq_ld s2 216 1024 (((1 : Int32) <<< (x3 &&& 31)) - (1 : Int32))).bind fun x4 => some (x4, s2)
theorem f_X12_sweepOf_run {xs : List Int32} {n d g : Nat} {a1 : Int32} {s : hq_S} {y : (Int32 × hq_S)} (hd : 3 ≤ d) (h : f_X12_sweepOf n a1 s = some y) : hq_R (mm_O xs) d mc_X12_sweepOf 0 [some (.ref 174), some (.int a1)] [] s g (some (.int y.1)) y.2 := by
  unfold f_X12_sweepOf at h
  refine hq_p 2 2 [some (.ref 174), some (.int a1)] [.int (0 : Int32), .ref 174] (fun n h => rfl) ?_
  obtain ⟨s1, hs1, h⟩ := hq_bind h
  refine hq_inv rfl rfl (Nat.le_trans (by decide) hd) rfl rfl (hq_rcv rfl rfl) (f_X12_lays_run (Nat.le_sub_of_add_le (Nat.le_trans (by decide) hd)) hs1) rfl ?_
  refine hq_p 2 7 [some (.ref 174), some (.int a1)] [.int a1, .ref 174] (fun n h => rfl) ?_
  obtain ⟨s2, hs2, h⟩ := hq_bind h
  refine hq_inv rfl rfl (Nat.le_trans (by decide) hd) rfl rfl (hq_rcv rfl rfl) (f_X12_laysNights_run (Nat.le_sub_of_add_le (Nat.le_trans (by decide) hd)) hs2) rfl ?_
  refine hq_p 1 11 [some (.ref 174), some (.int a1)] [.ref 174] (fun n h => rfl) ?_
  refine hq_gf (x := .ref 216) rfl rfl rfl rfl rfl ?_
  refine hq_p 2 16 [some (.ref 174), some (.int a1)] [.ref 174, .int (1 : Int32), .ref 216] (fun n h => rfl) ?_
  refine hq_gf (x := .ref 176) rfl rfl rfl rfl rfl ?_
  refine hq_p 1 20 [some (.ref 174), some (.int a1)] [.int (0 : Int32), .ref 176, .int (1 : Int32), .ref 216] (fun n h => rfl) ?_
  obtain ⟨x3, hx3, h⟩ := hq_bind h
  refine hq_iaload rfl rfl rfl hx3 ?_
  refine hq_p 3 24 [some (.ref 174), some (.int a1)] [.int (((1 : Int32) <<< (x3 &&& 31)) - (1 : Int32)), .ref 216] (fun n h => rfl) ?_
  obtain ⟨x4, hx4, h⟩ := hq_bind h
  refine hq_iaload rfl rfl List.length_replicate hx4 ?_
  have h := Option.some.inj h
  subst h
  exact ⟨1, rfl⟩
def f_X12_sweep (n : Nat) (a1 : Int32) (s : hq_S) : Option (Int32 × hq_S) := (hq_pi s 174 0 0 (0 : Int32)).bind fun s1 => if a1 < (1 : Int32) then some ((-1 : Int32), s1) else if (10 : Int32) < a1 then some ((-1 : Int32), s1) else (f_X12_sweepOf n a1 s1).bind fun y4 => if y4.1 = (-1 : Int32) then some ((-2 : Int32), y4.2) else some (y4.1, y4.2)
theorem f_X12_sweep_run {xs : List Int32} {n d g : Nat} {a1 : Int32} {s : hq_S} {y : (Int32 × hq_S)} (hd : 4 ≤ d) (h : f_X12_sweep n a1 s = some y) : hq_R (mm_O xs) d mc_X12_sweep 0 [some (.ref 174), some (.int a1), none] [] s g (some (.int y.1)) y.2 := by
  unfold f_X12_sweep at h
  refine hq_p 2 2 [some (.ref 174), some (.int a1), none] [.int (0 : Int32), .ref 174] (fun n h => rfl) ?_
  obtain ⟨s1, hs1, h⟩ := hq_bind h
  refine hq_pfi rfl rfl rfl rfl rfl hs1 ?_
  refine hq_p 2 7 [some (.ref 174), some (.int a1), none] [.int (1 : Int32), .int a1] (fun n h => rfl) ?_
  by_cases c2 : a1 < (1 : Int32)
  · rw [if_pos c2] at h
    refine hq_icT rfl (hq_c_lt_T c2) ?_
    refine hq_icn (-1 : Int32) rfl (by decide) ?_
    have h := Option.some.inj h
    subst h
    exact ⟨1, rfl⟩
  · rw [if_neg c2] at h
    refine hq_icF rfl (hq_c_lt_F c2) ?_
    refine hq_p 2 13 [some (.ref 174), some (.int a1), none] [.int (10 : Int32), .int a1] (fun n h => rfl) ?_
    by_cases c3 : (10 : Int32) < a1
    · rw [if_pos c3] at h
      refine hq_icF rfl (hq_c_le_F c3) ?_
      refine hq_icn (-1 : Int32) rfl (by decide) ?_
      have h := Option.some.inj h
      subst h
      exact ⟨1, rfl⟩
    · rw [if_neg c3] at h
      refine hq_icT rfl (hq_c_le_T c3) ?_
      refine hq_p 2 20 [some (.ref 174), some (.int a1), none] [.int a1, .ref 174] (fun n h => rfl) ?_
      obtain ⟨y4, hy4, h⟩ := hq_bind h
      refine hq_inv rfl rfl (Nat.le_trans (by decide) hd) rfl rfl (hq_rcv rfl rfl) (f_X12_sweepOf_run (Nat.le_sub_of_add_le (Nat.le_trans (by decide) hd)) hy4) rfl ?_
      refine hq_p 2 25 [some (.ref 174), some (.int a1), some (.int y4.1)] [.int y4.1] (fun n h => rfl) ?_
      refine hq_icn (-1 : Int32) rfl (by decide) ?_
      by_cases c5 : y4.1 = (-1 : Int32)
      · rw [if_pos c5] at h
        refine hq_icF rfl (hq_c_ne_F c5) ?_
        refine hq_bip (-2 : Int32) rfl (by decide) ?_
        refine hq_p 1 35 [some (.ref 174), some (.int a1), some (.int y4.1)] [.int (-2 : Int32)] (fun n h => rfl) ?_
        have h := Option.some.inj h
        subst h
        exact ⟨1, rfl⟩
      · rw [if_neg c5] at h
        refine hq_icT rfl (hq_c_ne_T c5) ?_
        refine hq_p 1 35 [some (.ref 174), some (.int a1), some (.int y4.1)] [.int y4.1] (fun n h => rfl) ?_
        have h := Option.some.inj h
        subst h
        exact ⟨1, rfl⟩
def f_X12_look_J111 (n : Nat) (q46 : Int32 → Int32 → Int32 → Int32 → hq_S → Option (Int32 × hq_S)) (a1 : Int32) (a2 : Int32) (a3 : Int32) (a4 : Int32) (s : hq_S) : Option (Int32 × hq_S) := q46 a1 a2 a3 (a4 + (1 : Int32)) s
theorem f_X12_look_J111_run {xs : List Int32} {n d g : Nat} {a1 : Int32} {a2 : Int32} {a3 : Int32} {a4 : Int32} {o5 : Option Value} {q46 : Int32 → Int32 → Int32 → Int32 → hq_S → Option (Int32 × hq_S)} {s : hq_S} {y : (Int32 × hq_S)} (hd : 4 ≤ d) (e46 : ∀ (a1 : Int32) (a2 : Int32) (a3 : Int32) (a4 : Int32) (o5 : Option Value) (s : hq_S), q46 a1 a2 a3 a4 s = some y → hq_R (mm_O xs) d mc_X12_look 46 [some (.ref 174), some (.int a1), some (.int a2), some (.int a3), some (.int a4), o5] [] s g (some (.int y.1)) y.2) (h : f_X12_look_J111 n q46 a1 a2 a3 a4 s = some y) : hq_R (mm_O xs) d mc_X12_look 111 [some (.ref 174), some (.int a1), some (.int a2), some (.int a3), some (.int a4), o5] [] s g (some (.int y.1)) y.2 := by
  unfold f_X12_look_J111 at h
  refine hq_p 2 46 [some (.ref 174), some (.int a1), some (.int a2), some (.int a3), some (.int (a4 + (1 : Int32))), o5] [] (fun n h => rfl) ?_
  exact e46 a1 a2 a3 (a4 + (1 : Int32)) _ s h
def f_X12_look_L46_B (n : Nat) (q46 : Int32 → Int32 → Int32 → Int32 → hq_S → Option (Int32 × hq_S)) (a1 : Int32) (a2 : Int32) (a3 : Int32) (a4 : Int32) (s : hq_S) : Option (Int32 × hq_S) := if a3 < a4 then some ((0 : Int32), s) else (f_X12_bitsOf n a4 s).bind fun y8 => if a1 < y8.1 then f_X12_look_J111 n q46 a1 a2 a3 a4 y8.2 else if (1 : Int32) < a2 then (hq_ld y8.2 217 1024 (a3 &&& (a4 ^^^ (-1 : Int32)))).bind fun x11 => (hq_ld y8.2 216 1024 x11).bind fun x12 => if x12 = (a2 - (1 : Int32)) then if (a3 &&& (a4 ^^^ (-1 : Int32))) = 0 then f_X12_look_J111 n q46 a1 a2 a3 a4 y8.2 else some (a4, y8.2) else f_X12_look_J111 n q46 a1 a2 a3 a4 y8.2 else if (a3 &&& (a4 ^^^ (-1 : Int32))) = 0 then some (a4, y8.2) else f_X12_look_J111 n q46 a1 a2 a3 a4 y8.2
def f_X12_look_L46 (n : Nat) (m : Nat) : Int32 → Int32 → Int32 → Int32 → hq_S → Option (Int32 × hq_S) := Nat.rec (fun _ _ _ _ _ => none) (fun _ q => f_X12_look_L46_B n q) m
theorem f_X12_look_L46_Brun {xs : List Int32} {n d g : Nat} {a1 : Int32} {a2 : Int32} {a3 : Int32} {a4 : Int32} {o5 : Option Value} {q46 : Int32 → Int32 → Int32 → Int32 → hq_S → Option (Int32 × hq_S)} {s : hq_S} {y : (Int32 × hq_S)} (hd : 4 ≤ d) (e46 : ∀ (a1 : Int32) (a2 : Int32) (a3 : Int32) (a4 : Int32) (o5 : Option Value) (s : hq_S), q46 a1 a2 a3 a4 s = some y → hq_R (mm_O xs) d mc_X12_look 46 [some (.ref 174), some (.int a1), some (.int a2), some (.int a3), some (.int a4), o5] [] s g (some (.int y.1)) y.2) (h : f_X12_look_L46_B n q46 a1 a2 a3 a4 s = some y) : hq_R (mm_O xs) d mc_X12_look 46 [some (.ref 174), some (.int a1), some (.int a2), some (.int a3), some (.int a4), o5] [] s g (some (.int y.1)) y.2 := by
  unfold f_X12_look_L46_B at h
  refine hq_p 2 49 [some (.ref 174), some (.int a1), some (.int a2), some (.int a3), some (.int a4), o5] [.int a3, .int a4] (fun n h => rfl) ?_
  by_cases c7 : a3 < a4
  · rw [if_pos c7] at h
    refine hq_icT rfl (hq_c_gt_T c7) ?_
    refine hq_p 1 118 [some (.ref 174), some (.int a1), some (.int a2), some (.int a3), some (.int a4), o5] [.int (0 : Int32)] (fun n h => rfl) ?_
    have h := Option.some.inj h
    subst h
    exact ⟨1, rfl⟩
  · rw [if_neg c7] at h
    refine hq_icF rfl (hq_c_gt_F c7) ?_
    refine hq_p 1 54 [some (.ref 174), some (.int a1), some (.int a2), some (.int a3), some (.int a4), o5] [.int a4] (fun n h => rfl) ?_
    obtain ⟨y8, hy8, h⟩ := hq_bind h
    refine hq_ist rfl rfl rfl (Nat.le_trans (by decide) hd) rfl (f_X12_bitsOf_run (Nat.le_sub_of_add_le (Nat.le_trans (by decide) hd)) hy8) rfl ?_
    refine hq_p 1 58 [some (.ref 174), some (.int a1), some (.int a2), some (.int a3), some (.int a4), o5] [.int a1, .int y8.1] (fun n h => rfl) ?_
    by_cases c9 : a1 < y8.1
    · rw [if_pos c9] at h
      refine hq_icF rfl (hq_c_le_F c9) ?_
      refine hq_p 1 111 [some (.ref 174), some (.int a1), some (.int a2), some (.int a3), some (.int a4), o5] [] (fun n h => rfl) ?_
      exact f_X12_look_J111_run hd e46 h
    · rw [if_neg c9] at h
      refine hq_icT rfl (hq_c_le_T c9) ?_
      refine hq_p 2 67 [some (.ref 174), some (.int a1), some (.int a2), some (.int a3), some (.int a4), o5] [.int a4, .int a3] (fun n h => rfl) ?_
      refine hq_icn (-1 : Int32) rfl (by decide) ?_
      refine hq_p 5 74 [some (.ref 174), some (.int a1), some (.int a2), some (.int a3), some (.int a4), some (.int (a3 &&& (a4 ^^^ (-1 : Int32))))] [.int (1 : Int32), .int a2] (fun n h => rfl) ?_
      by_cases c10 : (1 : Int32) < a2
      · rw [if_pos c10] at h
        refine hq_icT rfl (hq_c_gt_T c10) ?_
        refine hq_p 1 86 [some (.ref 174), some (.int a1), some (.int a2), some (.int a3), some (.int a4), some (.int (a3 &&& (a4 ^^^ (-1 : Int32))))] [.ref 174] (fun n h => rfl) ?_
        refine hq_gf (x := .ref 216) rfl rfl rfl rfl rfl ?_
        refine hq_p 1 90 [some (.ref 174), some (.int a1), some (.int a2), some (.int a3), some (.int a4), some (.int (a3 &&& (a4 ^^^ (-1 : Int32))))] [.ref 174, .ref 216] (fun n h => rfl) ?_
        refine hq_gf (x := .ref 217) rfl rfl rfl rfl rfl ?_
        refine hq_p 1 95 [some (.ref 174), some (.int a1), some (.int a2), some (.int a3), some (.int a4), some (.int (a3 &&& (a4 ^^^ (-1 : Int32))))] [.int (a3 &&& (a4 ^^^ (-1 : Int32))), .ref 217, .ref 216] (fun n h => rfl) ?_
        obtain ⟨x11, hx11, h⟩ := hq_bind h
        refine hq_iaload rfl rfl List.length_replicate hx11 ?_
        obtain ⟨x12, hx12, h⟩ := hq_bind h
        refine hq_iaload rfl rfl List.length_replicate hx12 ?_
        refine hq_p 3 100 [some (.ref 174), some (.int a1), some (.int a2), some (.int a3), some (.int a4), some (.int (a3 &&& (a4 ^^^ (-1 : Int32))))] [.int (a2 - (1 : Int32)), .int x12] (fun n h => rfl) ?_
        by_cases c13 : x12 = (a2 - (1 : Int32))
        · rw [if_pos c13] at h
          refine hq_icF rfl (hq_c_ne_F c13) ?_
          refine hq_p 1 105 [some (.ref 174), some (.int a1), some (.int a2), some (.int a3), some (.int a4), some (.int (a3 &&& (a4 ^^^ (-1 : Int32))))] [.int (a3 &&& (a4 ^^^ (-1 : Int32)))] (fun n h => rfl) ?_
          by_cases c14 : (a3 &&& (a4 ^^^ (-1 : Int32))) = 0
          · rw [if_pos c14] at h
            refine hq_izT rfl (hq_c_eq_T c14) ?_
            exact f_X12_look_J111_run hd e46 h
          · rw [if_neg c14] at h
            refine hq_izF rfl (hq_c_eq_F c14) ?_
            refine hq_p 1 110 [some (.ref 174), some (.int a1), some (.int a2), some (.int a3), some (.int a4), some (.int (a3 &&& (a4 ^^^ (-1 : Int32))))] [.int a4] (fun n h => rfl) ?_
            have h := Option.some.inj h
            subst h
            exact ⟨1, rfl⟩
        · rw [if_neg c13] at h
          refine hq_icT rfl (hq_c_ne_T c13) ?_
          exact f_X12_look_J111_run hd e46 h
      · rw [if_neg c10] at h
        refine hq_icF rfl (hq_c_gt_F c10) ?_
        refine hq_p 1 79 [some (.ref 174), some (.int a1), some (.int a2), some (.int a3), some (.int a4), some (.int (a3 &&& (a4 ^^^ (-1 : Int32))))] [.int (a3 &&& (a4 ^^^ (-1 : Int32)))] (fun n h => rfl) ?_
        by_cases c15 : (a3 &&& (a4 ^^^ (-1 : Int32))) = 0
        · rw [if_pos c15] at h
          refine hq_izF rfl (hq_c_ne_F c15) ?_
          refine hq_p 2 110 [some (.ref 174), some (.int a1), some (.int a2), some (.int a3), some (.int a4), some (.int (a3 &&& (a4 ^^^ (-1 : Int32))))] [.int a4] (fun n h => rfl) ?_
          have h := Option.some.inj h
          subst h
          exact ⟨1, rfl⟩
        · rw [if_neg c15] at h
          refine hq_izT rfl (hq_c_ne_T c15) ?_
          exact f_X12_look_J111_run hd e46 h
theorem f_X12_look_L46_run {xs : List Int32} {n m d g : Nat} {a1 : Int32} {a2 : Int32} {a3 : Int32} {a4 : Int32} {o5 : Option Value} {s : hq_S} {y : (Int32 × hq_S)} (hd : 4 ≤ d) (h : f_X12_look_L46 n m a1 a2 a3 a4 s = some y) : hq_R (mm_O xs) d mc_X12_look 46 [some (.ref 174), some (.int a1), some (.int a2), some (.int a3), some (.int a4), o5] [] s g (some (.int y.1)) y.2 := by
  induction m generalizing a1 a2 a3 a4 o5 s with
  | zero => cases h
  | succ m ih => exact f_X12_look_L46_Brun (n := n) hd (fun a1 a2 a3 a4 o5 s h => ih h) h
def f_X12_look (n : Nat) (a1 : Int32) (s : hq_S) : Option (Int32 × hq_S) := (hq_pi s 174 0 0 (0 : Int32)).bind fun s1 => if a1 < (1 : Int32) then some ((-1 : Int32), s1) else if (10 : Int32) < a1 then some ((-1 : Int32), s1) else (f_X12_sweepOf n a1 s1).bind fun y4 => if y4.1 = (-1 : Int32) then some ((-2 : Int32), y4.2) else (hq_ld y4.2 176 14 (0 : Int32)).bind fun x6 => f_X12_look_L46 n n a1 y4.1 (((1 : Int32) <<< (x6 &&& 31)) - (1 : Int32)) (0 : Int32) y4.2
theorem f_X12_look_run {xs : List Int32} {n d g : Nat} {a1 : Int32} {s : hq_S} {y : (Int32 × hq_S)} (hd : 4 ≤ d) (h : f_X12_look n a1 s = some y) : hq_R (mm_O xs) d mc_X12_look 0 [some (.ref 174), some (.int a1), none, none, none, none] [] s g (some (.int y.1)) y.2 := by
  unfold f_X12_look at h
  refine hq_p 2 2 [some (.ref 174), some (.int a1), none, none, none, none] [.int (0 : Int32), .ref 174] (fun n h => rfl) ?_
  obtain ⟨s1, hs1, h⟩ := hq_bind h
  refine hq_pfi rfl rfl rfl rfl rfl hs1 ?_
  refine hq_p 2 7 [some (.ref 174), some (.int a1), none, none, none, none] [.int (1 : Int32), .int a1] (fun n h => rfl) ?_
  by_cases c2 : a1 < (1 : Int32)
  · rw [if_pos c2] at h
    refine hq_icT rfl (hq_c_lt_T c2) ?_
    refine hq_icn (-1 : Int32) rfl (by decide) ?_
    have h := Option.some.inj h
    subst h
    exact ⟨1, rfl⟩
  · rw [if_neg c2] at h
    refine hq_icF rfl (hq_c_lt_F c2) ?_
    refine hq_p 2 13 [some (.ref 174), some (.int a1), none, none, none, none] [.int (10 : Int32), .int a1] (fun n h => rfl) ?_
    by_cases c3 : (10 : Int32) < a1
    · rw [if_pos c3] at h
      refine hq_icF rfl (hq_c_le_F c3) ?_
      refine hq_icn (-1 : Int32) rfl (by decide) ?_
      have h := Option.some.inj h
      subst h
      exact ⟨1, rfl⟩
    · rw [if_neg c3] at h
      refine hq_icT rfl (hq_c_le_T c3) ?_
      refine hq_p 2 20 [some (.ref 174), some (.int a1), none, none, none, none] [.int a1, .ref 174] (fun n h => rfl) ?_
      obtain ⟨y4, hy4, h⟩ := hq_bind h
      refine hq_inv rfl rfl (Nat.le_trans (by decide) hd) rfl rfl (hq_rcv rfl rfl) (f_X12_sweepOf_run (Nat.le_sub_of_add_le (Nat.le_trans (by decide) hd)) hy4) rfl ?_
      refine hq_p 2 25 [some (.ref 174), some (.int a1), some (.int y4.1), none, none, none] [.int y4.1] (fun n h => rfl) ?_
      refine hq_icn (-1 : Int32) rfl (by decide) ?_
      by_cases c5 : y4.1 = (-1 : Int32)
      · rw [if_pos c5] at h
        refine hq_icF rfl (hq_c_ne_F c5) ?_
        refine hq_bip (-2 : Int32) rfl (by decide) ?_
        have h := Option.some.inj h
        subst h
        exact ⟨1, rfl⟩
      · rw [if_neg c5] at h
        refine hq_icT rfl (hq_c_ne_T c5) ?_
        refine hq_p 2 34 [some (.ref 174), some (.int a1), some (.int y4.1), none, none, none] [.ref 174, .int (1 : Int32)] (fun n h => rfl) ?_
        refine hq_gf (x := .ref 176) rfl rfl rfl rfl rfl ?_
        refine hq_p 1 38 [some (.ref 174), some (.int a1), some (.int y4.1), none, none, none] [.int (0 : Int32), .ref 176, .int (1 : Int32)] (fun n h => rfl) ?_
        obtain ⟨x6, hx6, h⟩ := hq_bind h
        refine hq_iaload rfl rfl rfl hx6 ?_
        refine hq_p 6 46 [some (.ref 174), some (.int a1), some (.int y4.1), some (.int (((1 : Int32) <<< (x6 &&& 31)) - (1 : Int32))), some (.int (0 : Int32)), none] [] (fun n h => rfl) ?_
        exact f_X12_look_L46_run hd h
def f_X12_dark_L18_B (n : Nat) (q18 : Int32 → hq_S → Option (Int32 × hq_S)) (a1 : Int32) (s : hq_S) : Option (Int32 × hq_S) := (f_X12_sweepOf n a1 s).bind fun y4 => if y4.1 = (-1 : Int32) then q18 (a1 + (1 : Int32)) y4.2 else some (a1, y4.2)
def f_X12_dark_L18 (n : Nat) (m : Nat) : Int32 → hq_S → Option (Int32 × hq_S) := Nat.rec (fun _ _ => none) (fun _ q => f_X12_dark_L18_B n q) m
theorem f_X12_dark_L18_Brun {xs : List Int32} {n d g : Nat} {a1 : Int32} {q18 : Int32 → hq_S → Option (Int32 × hq_S)} {s : hq_S} {y : (Int32 × hq_S)} (hd : 4 ≤ d) (e18 : ∀ (a1 : Int32) (s : hq_S), q18 a1 s = some y → hq_R (mm_O xs) d mc_X12_dark 18 [some (.ref 174), some (.int a1)] [] s g (some (.int y.1)) y.2) (h : f_X12_dark_L18_B n q18 a1 s = some y) : hq_R (mm_O xs) d mc_X12_dark 18 [some (.ref 174), some (.int a1)] [] s g (some (.int y.1)) y.2 := by
  unfold f_X12_dark_L18_B at h
  refine hq_p 2 20 [some (.ref 174), some (.int a1)] [.int a1, .ref 174] (fun n h => rfl) ?_
  obtain ⟨y4, hy4, h⟩ := hq_bind h
  refine hq_inv rfl rfl (Nat.le_trans (by decide) hd) rfl rfl (hq_rcv rfl rfl) (f_X12_sweepOf_run (Nat.le_sub_of_add_le (Nat.le_trans (by decide) hd)) hy4) rfl ?_
  refine hq_icn (-1 : Int32) rfl (by decide) ?_
  by_cases c5 : y4.1 = (-1 : Int32)
  · rw [if_pos c5] at h
    refine hq_icF rfl (hq_c_ne_F c5) ?_
    refine hq_p 2 18 [some (.ref 174), some (.int (a1 + (1 : Int32)))] [] (fun n h => rfl) ?_
    exact e18 (a1 + (1 : Int32)) y4.2 h
  · rw [if_neg c5] at h
    refine hq_icT rfl (hq_c_ne_T c5) ?_
    refine hq_p 1 34 [some (.ref 174), some (.int a1)] [.int a1] (fun n h => rfl) ?_
    have h := Option.some.inj h
    subst h
    exact ⟨1, rfl⟩
theorem f_X12_dark_L18_run {xs : List Int32} {n m d g : Nat} {a1 : Int32} {s : hq_S} {y : (Int32 × hq_S)} (hd : 4 ≤ d) (h : f_X12_dark_L18 n m a1 s = some y) : hq_R (mm_O xs) d mc_X12_dark 18 [some (.ref 174), some (.int a1)] [] s g (some (.int y.1)) y.2 := by
  induction m generalizing a1 s with
  | zero => cases h
  | succ m ih => exact f_X12_dark_L18_Brun (n := n) hd (fun a1 s h => ih h) h
def f_X12_dark (n : Nat) (s : hq_S) : Option (Int32 × hq_S) := (hq_pi s 174 0 0 (0 : Int32)).bind fun s1 => (hq_ld s1 176 14 (0 : Int32)).bind fun x2 => if x2 = 0 then some ((0 : Int32), s1) else f_X12_dark_L18 n n (1 : Int32) s1
theorem f_X12_dark_run {xs : List Int32} {n d g : Nat} {s : hq_S} {y : (Int32 × hq_S)} (hd : 4 ≤ d) (h : f_X12_dark n s = some y) : hq_R (mm_O xs) d mc_X12_dark 0 [some (.ref 174), none] [] s g (some (.int y.1)) y.2 := by
  unfold f_X12_dark at h
  refine hq_p 2 2 [some (.ref 174), none] [.int (0 : Int32), .ref 174] (fun n h => rfl) ?_
  obtain ⟨s1, hs1, h⟩ := hq_bind h
  refine hq_pfi rfl rfl rfl rfl rfl hs1 ?_
  refine hq_p 1 6 [some (.ref 174), none] [.ref 174] (fun n h => rfl) ?_
  refine hq_gf (x := .ref 176) rfl rfl rfl rfl rfl ?_
  refine hq_p 1 10 [some (.ref 174), none] [.int (0 : Int32), .ref 176] (fun n h => rfl) ?_
  obtain ⟨x2, hx2, h⟩ := hq_bind h
  refine hq_iaload rfl rfl rfl hx2 ?_
  by_cases c3 : x2 = 0
  · rw [if_pos c3] at h
    refine hq_izF rfl (hq_c_ne_F c3) ?_
    refine hq_p 1 15 [some (.ref 174), none] [.int (0 : Int32)] (fun n h => rfl) ?_
    have h := Option.some.inj h
    subst h
    exact ⟨1, rfl⟩
  · rw [if_neg c3] at h
    refine hq_izT rfl (hq_c_ne_T c3) ?_
    refine hq_p 2 18 [some (.ref 174), some (.int (1 : Int32))] [] (fun n h => rfl) ?_
    exact f_X12_dark_L18_run hd h
def f_X12_could_L118_B (n : Nat) (q54 : Int32 → Int32 → Int32 → Int32 → hq_S → Option (Int32 × hq_S)) (q118 : Int32 → Int32 → Int32 → Int32 → Int32 → Int32 → hq_S → Option (Int32 × hq_S)) (a1 : Int32) (a2 : Int32) (a3 : Int32) (a4 : Int32) (a5 : Int32) (a6 : Int32) (s : hq_S) : Option (Int32 × hq_S) := (hq_ld s 176 14 (2 : Int32)).bind fun x14 => if a6 < x14 then (hq_ld s 200 69 ((3 : Int32) + a6)).bind fun x16 => q118 a1 a2 a3 a4 (a5 &&& (((1 : Int32) <<< (x16 &&& 31)) ^^^ (-1 : Int32))) (a6 + (1 : Int32)) s else q54 a1 a2 a5 (a4 + (1 : Int32)) s
def f_X12_could_L118 (n : Nat) (q54 : Int32 → Int32 → Int32 → Int32 → hq_S → Option (Int32 × hq_S)) (m : Nat) : Int32 → Int32 → Int32 → Int32 → Int32 → Int32 → hq_S → Option (Int32 × hq_S) := Nat.rec (fun _ _ _ _ _ _ _ => none) (fun _ q => f_X12_could_L118_B n q54 q) m
theorem f_X12_could_L118_Brun {xs : List Int32} {n d g : Nat} {a1 : Int32} {a2 : Int32} {a3 : Int32} {a4 : Int32} {a5 : Int32} {a6 : Int32} {q54 : Int32 → Int32 → Int32 → Int32 → hq_S → Option (Int32 × hq_S)} {q118 : Int32 → Int32 → Int32 → Int32 → Int32 → Int32 → hq_S → Option (Int32 × hq_S)} {s : hq_S} {y : (Int32 × hq_S)} (hd : 6 ≤ d) (e54 : ∀ (a1 : Int32) (a2 : Int32) (a3 : Int32) (a4 : Int32) (o5 : Option Value) (o6 : Option Value) (s : hq_S), q54 a1 a2 a3 a4 s = some y → hq_R (mm_O xs) d mc_X12_could 54 [some (.ref 174), some (.int a1), some (.int a2), some (.int a3), some (.int a4), o5, o6] [] s g (some (.int y.1)) y.2) (e118 : ∀ (a1 : Int32) (a2 : Int32) (a3 : Int32) (a4 : Int32) (a5 : Int32) (a6 : Int32) (s : hq_S), q118 a1 a2 a3 a4 a5 a6 s = some y → hq_R (mm_O xs) d mc_X12_could 118 [some (.ref 174), some (.int a1), some (.int a2), some (.int a3), some (.int a4), some (.int a5), some (.int a6)] [] s g (some (.int y.1)) y.2) (h : f_X12_could_L118_B n q54 q118 a1 a2 a3 a4 a5 a6 s = some y) : hq_R (mm_O xs) d mc_X12_could 118 [some (.ref 174), some (.int a1), some (.int a2), some (.int a3), some (.int a4), some (.int a5), some (.int a6)] [] s g (some (.int y.1)) y.2 := by
  unfold f_X12_could_L118_B at h
  refine hq_p 2 121 [some (.ref 174), some (.int a1), some (.int a2), some (.int a3), some (.int a4), some (.int a5), some (.int a6)] [.ref 174, .int a6] (fun n h => rfl) ?_
  refine hq_gf (x := .ref 176) rfl rfl rfl rfl rfl ?_
  refine hq_p 1 125 [some (.ref 174), some (.int a1), some (.int a2), some (.int a3), some (.int a4), some (.int a5), some (.int a6)] [.int (2 : Int32), .ref 176, .int a6] (fun n h => rfl) ?_
  obtain ⟨x14, hx14, h⟩ := hq_bind h
  refine hq_iaload rfl rfl rfl hx14 ?_
  by_cases c15 : a6 < x14
  · rw [if_pos c15] at h
    refine hq_icF rfl (hq_c_ge_F c15) ?_
    refine hq_p 3 133 [some (.ref 174), some (.int a1), some (.int a2), some (.int a3), some (.int a4), some (.int a5), some (.int a6)] [.ref 174, .int (1 : Int32), .int a5] (fun n h => rfl) ?_
    refine hq_gf (x := .ref 200) rfl rfl rfl rfl rfl ?_
    refine hq_p 3 140 [some (.ref 174), some (.int a1), some (.int a2), some (.int a3), some (.int a4), some (.int a5), some (.int a6)] [.int ((3 : Int32) + a6), .ref 200, .int (1 : Int32), .int a5] (fun n h => rfl) ?_
    obtain ⟨x16, hx16, h⟩ := hq_bind h
    refine hq_iaload rfl rfl List.length_replicate hx16 ?_
    refine hq_p 1 142 [some (.ref 174), some (.int a1), some (.int a2), some (.int a3), some (.int a4), some (.int a5), some (.int a6)] [.int ((1 : Int32) <<< (x16 &&& 31)), .int a5] (fun n h => rfl) ?_
    refine hq_icn (-1 : Int32) rfl (by decide) ?_
    refine hq_p 5 118 [some (.ref 174), some (.int a1), some (.int a2), some (.int a3), some (.int a4), some (.int (a5 &&& (((1 : Int32) <<< (x16 &&& 31)) ^^^ (-1 : Int32)))), some (.int (a6 + (1 : Int32)))] [] (fun n h => rfl) ?_
    exact e118 a1 a2 a3 a4 (a5 &&& (((1 : Int32) <<< (x16 &&& 31)) ^^^ (-1 : Int32))) (a6 + (1 : Int32)) s h
  · rw [if_neg c15] at h
    refine hq_icT rfl (hq_c_ge_T c15) ?_
    refine hq_p 4 54 [some (.ref 174), some (.int a1), some (.int a2), some (.int a5), some (.int (a4 + (1 : Int32))), some (.int a5), some (.int a6)] [] (fun n h => rfl) ?_
    exact e54 a1 a2 a5 (a4 + (1 : Int32)) _ _ s h
theorem f_X12_could_L118_run {xs : List Int32} {n m d g : Nat} {a1 : Int32} {a2 : Int32} {a3 : Int32} {a4 : Int32} {a5 : Int32} {a6 : Int32} {q54 : Int32 → Int32 → Int32 → Int32 → hq_S → Option (Int32 × hq_S)} {s : hq_S} {y : (Int32 × hq_S)} (hd : 6 ≤ d) (e54 : ∀ (a1 : Int32) (a2 : Int32) (a3 : Int32) (a4 : Int32) (o5 : Option Value) (o6 : Option Value) (s : hq_S), q54 a1 a2 a3 a4 s = some y → hq_R (mm_O xs) d mc_X12_could 54 [some (.ref 174), some (.int a1), some (.int a2), some (.int a3), some (.int a4), o5, o6] [] s g (some (.int y.1)) y.2) (h : f_X12_could_L118 n q54 m a1 a2 a3 a4 a5 a6 s = some y) : hq_R (mm_O xs) d mc_X12_could 118 [some (.ref 174), some (.int a1), some (.int a2), some (.int a3), some (.int a4), some (.int a5), some (.int a6)] [] s g (some (.int y.1)) y.2 := by
  induction m generalizing a1 a2 a3 a4 a5 a6 s with
  | zero => cases h
  | succ m ih => exact f_X12_could_L118_Brun (n := n) hd e54 (fun a1 a2 a3 a4 a5 a6 s h => ih h) h
def f_X12_could_L72_B (n : Nat) (q54 : Int32 → Int32 → Int32 → Int32 → hq_S → Option (Int32 × hq_S)) (q72 : Int32 → Int32 → Int32 → Int32 → Int32 → Int32 → hq_S → Option (Int32 × hq_S)) (a1 : Int32) (a2 : Int32) (a3 : Int32) (a4 : Int32) (a5 : Int32) (a6 : Int32) (s : hq_S) : Option (Int32 × hq_S) := (hq_ld s 176 14 (0 : Int32)).bind fun x12 => if a6 < x12 then (if ((a3 >>> (a6 &&& 31)) &&& (1 : Int32)) = (1 : Int32) then (hq_ld s 206 10 a6).bind fun x19 => some x19 else some (0 : Int32)).bind fun z17 => q72 a1 a2 a3 a4 (a5 ||| z17) (a6 + (1 : Int32)) s else f_X12_could_L118 n q54 n a1 a2 a3 a4 a5 (0 : Int32) s
def f_X12_could_L72 (n : Nat) (q54 : Int32 → Int32 → Int32 → Int32 → hq_S → Option (Int32 × hq_S)) (m : Nat) : Int32 → Int32 → Int32 → Int32 → Int32 → Int32 → hq_S → Option (Int32 × hq_S) := Nat.rec (fun _ _ _ _ _ _ _ => none) (fun _ q => f_X12_could_L72_B n q54 q) m
theorem f_X12_could_L72_Brun {xs : List Int32} {n d g : Nat} {a1 : Int32} {a2 : Int32} {a3 : Int32} {a4 : Int32} {a5 : Int32} {a6 : Int32} {q54 : Int32 → Int32 → Int32 → Int32 → hq_S → Option (Int32 × hq_S)} {q72 : Int32 → Int32 → Int32 → Int32 → Int32 → Int32 → hq_S → Option (Int32 × hq_S)} {s : hq_S} {y : (Int32 × hq_S)} (hd : 6 ≤ d) (e54 : ∀ (a1 : Int32) (a2 : Int32) (a3 : Int32) (a4 : Int32) (o5 : Option Value) (o6 : Option Value) (s : hq_S), q54 a1 a2 a3 a4 s = some y → hq_R (mm_O xs) d mc_X12_could 54 [some (.ref 174), some (.int a1), some (.int a2), some (.int a3), some (.int a4), o5, o6] [] s g (some (.int y.1)) y.2) (e72 : ∀ (a1 : Int32) (a2 : Int32) (a3 : Int32) (a4 : Int32) (a5 : Int32) (a6 : Int32) (s : hq_S), q72 a1 a2 a3 a4 a5 a6 s = some y → hq_R (mm_O xs) d mc_X12_could 72 [some (.ref 174), some (.int a1), some (.int a2), some (.int a3), some (.int a4), some (.int a5), some (.int a6)] [] s g (some (.int y.1)) y.2) (h : f_X12_could_L72_B n q54 q72 a1 a2 a3 a4 a5 a6 s = some y) : hq_R (mm_O xs) d mc_X12_could 72 [some (.ref 174), some (.int a1), some (.int a2), some (.int a3), some (.int a4), some (.int a5), some (.int a6)] [] s g (some (.int y.1)) y.2 := by
  unfold f_X12_could_L72_B at h
  refine hq_p 2 75 [some (.ref 174), some (.int a1), some (.int a2), some (.int a3), some (.int a4), some (.int a5), some (.int a6)] [.ref 174, .int a6] (fun n h => rfl) ?_
  refine hq_gf (x := .ref 176) rfl rfl rfl rfl rfl ?_
  refine hq_p 1 79 [some (.ref 174), some (.int a1), some (.int a2), some (.int a3), some (.int a4), some (.int a5), some (.int a6)] [.int (0 : Int32), .ref 176, .int a6] (fun n h => rfl) ?_
  obtain ⟨x12, hx12, h⟩ := hq_bind h
  refine hq_iaload rfl rfl rfl hx12 ?_
  by_cases c13 : a6 < x12
  · rw [if_pos c13] at h
    refine hq_icF rfl (hq_c_ge_F c13) ?_
    refine hq_p 7 92 [some (.ref 174), some (.int a1), some (.int a2), some (.int a3), some (.int a4), some (.int a5), some (.int a6)] [.int (1 : Int32), .int ((a3 >>> (a6 &&& 31)) &&& (1 : Int32)), .int a5] (fun n h => rfl) ?_
    obtain ⟨z17, hz17, h⟩ := hq_bind h
    suffices hT : hq_R (mm_O xs) d mc_X12_could 106 [some (.ref 174), some (.int a1), some (.int a2), some (.int a3), some (.int a4), some (.int a5), some (.int a6)] [.int z17, .int a5] s g (some (.int y.1)) y.2 from by
      clear h
      have h := hz17
      by_cases c18 : ((a3 >>> (a6 &&& 31)) &&& (1 : Int32)) = (1 : Int32)
      · rw [if_pos c18] at h
        refine hq_icF rfl (hq_c_ne_F c18) ?_
        refine hq_p 1 96 [some (.ref 174), some (.int a1), some (.int a2), some (.int a3), some (.int a4), some (.int a5), some (.int a6)] [.ref 174, .int a5] (fun n h => rfl) ?_
        refine hq_gf (x := .ref 206) rfl rfl rfl rfl rfl ?_
        refine hq_p 1 101 [some (.ref 174), some (.int a1), some (.int a2), some (.int a3), some (.int a4), some (.int a5), some (.int a6)] [.int a6, .ref 206, .int a5] (fun n h => rfl) ?_
        obtain ⟨x19, hx19, h⟩ := hq_bind h
        refine hq_iaload rfl rfl List.length_replicate hx19 ?_
        refine hq_p 1 106 [some (.ref 174), some (.int a1), some (.int a2), some (.int a3), some (.int a4), some (.int a5), some (.int a6)] [.int x19, .int a5] (fun n h => rfl) ?_
        cases h
        exact hT
      · rw [if_neg c18] at h
        refine hq_icT rfl (hq_c_ne_T c18) ?_
        refine hq_p 1 106 [some (.ref 174), some (.int a1), some (.int a2), some (.int a3), some (.int a4), some (.int a5), some (.int a6)] [.int (0 : Int32), .int a5] (fun n h => rfl) ?_
        cases h
        exact hT
    refine hq_p 4 72 [some (.ref 174), some (.int a1), some (.int a2), some (.int a3), some (.int a4), some (.int (a5 ||| z17)), some (.int (a6 + (1 : Int32)))] [] (fun n h => rfl) ?_
    exact e72 a1 a2 a3 a4 (a5 ||| z17) (a6 + (1 : Int32)) s h
  · rw [if_neg c13] at h
    refine hq_icT rfl (hq_c_ge_T c13) ?_
    refine hq_p 2 118 [some (.ref 174), some (.int a1), some (.int a2), some (.int a3), some (.int a4), some (.int a5), some (.int (0 : Int32))] [] (fun n h => rfl) ?_
    exact f_X12_could_L118_run hd e54 h
theorem f_X12_could_L72_run {xs : List Int32} {n m d g : Nat} {a1 : Int32} {a2 : Int32} {a3 : Int32} {a4 : Int32} {a5 : Int32} {a6 : Int32} {q54 : Int32 → Int32 → Int32 → Int32 → hq_S → Option (Int32 × hq_S)} {s : hq_S} {y : (Int32 × hq_S)} (hd : 6 ≤ d) (e54 : ∀ (a1 : Int32) (a2 : Int32) (a3 : Int32) (a4 : Int32) (o5 : Option Value) (o6 : Option Value) (s : hq_S), q54 a1 a2 a3 a4 s = some y → hq_R (mm_O xs) d mc_X12_could 54 [some (.ref 174), some (.int a1), some (.int a2), some (.int a3), some (.int a4), o5, o6] [] s g (some (.int y.1)) y.2) (h : f_X12_could_L72 n q54 m a1 a2 a3 a4 a5 a6 s = some y) : hq_R (mm_O xs) d mc_X12_could 72 [some (.ref 174), some (.int a1), some (.int a2), some (.int a3), some (.int a4), some (.int a5), some (.int a6)] [] s g (some (.int y.1)) y.2 := by
  induction m generalizing a1 a2 a3 a4 a5 a6 s with
  | zero => cases h
  | succ m ih => exact f_X12_could_L72_Brun (n := n) hd e54 (fun a1 a2 a3 a4 a5 a6 s h => ih h) h
def f_X12_could_L54_B (n : Nat) (q54 : Int32 → Int32 → Int32 → Int32 → hq_S → Option (Int32 × hq_S)) (a1 : Int32) (a2 : Int32) (a3 : Int32) (a4 : Int32) (s : hq_S) : Option (Int32 × hq_S) := if a4 < a2 then (f_X12_passes n (1 : Int32) (0 : Int32) s).bind fun s11 => f_X12_could_L72 n q54 n a1 a2 a3 a4 a3 (0 : Int32) s11 else some (a3, s)
def f_X12_could_L54 (n : Nat) (m : Nat) : Int32 → Int32 → Int32 → Int32 → hq_S → Option (Int32 × hq_S) := Nat.rec (fun _ _ _ _ _ => none) (fun _ q => f_X12_could_L54_B n q) m
theorem f_X12_could_L54_Brun {xs : List Int32} {n d g : Nat} {a1 : Int32} {a2 : Int32} {a3 : Int32} {a4 : Int32} {o5 : Option Value} {o6 : Option Value} {q54 : Int32 → Int32 → Int32 → Int32 → hq_S → Option (Int32 × hq_S)} {s : hq_S} {y : (Int32 × hq_S)} (hd : 6 ≤ d) (e54 : ∀ (a1 : Int32) (a2 : Int32) (a3 : Int32) (a4 : Int32) (o5 : Option Value) (o6 : Option Value) (s : hq_S), q54 a1 a2 a3 a4 s = some y → hq_R (mm_O xs) d mc_X12_could 54 [some (.ref 174), some (.int a1), some (.int a2), some (.int a3), some (.int a4), o5, o6] [] s g (some (.int y.1)) y.2) (h : f_X12_could_L54_B n q54 a1 a2 a3 a4 s = some y) : hq_R (mm_O xs) d mc_X12_could 54 [some (.ref 174), some (.int a1), some (.int a2), some (.int a3), some (.int a4), o5, o6] [] s g (some (.int y.1)) y.2 := by
  unfold f_X12_could_L54_B at h
  refine hq_p 2 57 [some (.ref 174), some (.int a1), some (.int a2), some (.int a3), some (.int a4), o5, o6] [.int a2, .int a4] (fun n h => rfl) ?_
  by_cases c10 : a4 < a2
  · rw [if_pos c10] at h
    refine hq_icF rfl (hq_c_ge_F c10) ?_
    refine hq_p 3 63 [some (.ref 174), some (.int a1), some (.int a2), some (.int a3), some (.int a4), o5, o6] [.int (0 : Int32), .int (1 : Int32), .ref 174] (fun n h => rfl) ?_
    obtain ⟨s11, hs11, h⟩ := hq_bind h
    refine hq_inv rfl rfl (Nat.le_trans (by decide) hd) rfl rfl (hq_rcv rfl rfl) (f_X12_passes_run (Nat.le_sub_of_add_le (Nat.le_trans (by decide) hd)) hs11) rfl ?_
    refine hq_p 4 72 [some (.ref 174), some (.int a1), some (.int a2), some (.int a3), some (.int a4), some (.int a3), some (.int (0 : Int32))] [] (fun n h => rfl) ?_
    exact f_X12_could_L72_run hd e54 h
  · rw [if_neg c10] at h
    refine hq_icT rfl (hq_c_ge_T c10) ?_
    refine hq_p 1 163 [some (.ref 174), some (.int a1), some (.int a2), some (.int a3), some (.int a4), o5, o6] [.int a3] (fun n h => rfl) ?_
    have h := Option.some.inj h
    subst h
    exact ⟨1, rfl⟩
theorem f_X12_could_L54_run {xs : List Int32} {n m d g : Nat} {a1 : Int32} {a2 : Int32} {a3 : Int32} {a4 : Int32} {o5 : Option Value} {o6 : Option Value} {s : hq_S} {y : (Int32 × hq_S)} (hd : 6 ≤ d) (h : f_X12_could_L54 n m a1 a2 a3 a4 s = some y) : hq_R (mm_O xs) d mc_X12_could 54 [some (.ref 174), some (.int a1), some (.int a2), some (.int a3), some (.int a4), o5, o6] [] s g (some (.int y.1)) y.2 := by
  induction m generalizing a1 a2 a3 a4 o5 o6 s with
  | zero => cases h
  | succ m ih => exact f_X12_could_L54_Brun (n := n) hd (fun a1 a2 a3 a4 o5 o6 s h => ih h) h
def f_X12_could (n : Nat) (a1 : Int32) (a2 : Int32) (s : hq_S) : Option (Int32 × hq_S) := (hq_pi s 174 0 0 (0 : Int32)).bind fun s1 => (f_X12_isThief n a1 s1).bind fun y2 => if y2.1 = 0 then some ((-1 : Int32), y2.2) else if a2 < 0 then some ((-1 : Int32), y2.2) else if (60 : Int32) < a2 then some ((-1 : Int32), y2.2) else (f_X12_isFree n (0 : Int32) a1 y2.2).bind fun y6 => if y6.1 = 0 then some ((0 : Int32), y6.2) else (f_X12_copies n (1 : Int32) (0 : Int32) y6.2).bind fun s8 => (hq_ld s8 203 92 a1).bind fun x9 => f_X12_could_L54 n n a1 a2 ((1 : Int32) <<< (x9 &&& 31)) (0 : Int32) s8
theorem f_X12_could_run {xs : List Int32} {n d g : Nat} {a1 : Int32} {a2 : Int32} {s : hq_S} {y : (Int32 × hq_S)} (hd : 6 ≤ d) (h : f_X12_could n a1 a2 s = some y) : hq_R (mm_O xs) d mc_X12_could 0 [some (.ref 174), some (.int a1), some (.int a2), none, none, none, none] [] s g (some (.int y.1)) y.2 := by
  unfold f_X12_could at h
  refine hq_p 2 2 [some (.ref 174), some (.int a1), some (.int a2), none, none, none, none] [.int (0 : Int32), .ref 174] (fun n h => rfl) ?_
  obtain ⟨s1, hs1, h⟩ := hq_bind h
  refine hq_pfi rfl rfl rfl rfl rfl hs1 ?_
  refine hq_p 2 7 [some (.ref 174), some (.int a1), some (.int a2), none, none, none, none] [.int a1, .ref 174] (fun n h => rfl) ?_
  obtain ⟨y2, hy2, h⟩ := hq_bind h
  refine hq_inv rfl rfl (Nat.le_trans (by decide) hd) rfl rfl (hq_rcv rfl rfl) (f_X12_isThief_run (Nat.le_sub_of_add_le (Nat.le_trans (by decide) hd)) hy2) rfl ?_
  by_cases c3 : y2.1 = 0
  · rw [if_pos c3] at h
    refine hq_izT rfl (hq_c_eq_T c3) ?_
    refine hq_icn (-1 : Int32) rfl (by decide) ?_
    have h := Option.some.inj h
    subst h
    exact ⟨1, rfl⟩
  · rw [if_neg c3] at h
    refine hq_izF rfl (hq_c_eq_F c3) ?_
    refine hq_p 1 14 [some (.ref 174), some (.int a1), some (.int a2), none, none, none, none] [.int a2] (fun n h => rfl) ?_
    by_cases c4 : a2 < 0
    · rw [if_pos c4] at h
      refine hq_izT rfl (hq_c_lt_T c4) ?_
      refine hq_icn (-1 : Int32) rfl (by decide) ?_
      have h := Option.some.inj h
      subst h
      exact ⟨1, rfl⟩
    · rw [if_neg c4] at h
      refine hq_izF rfl (hq_c_lt_F c4) ?_
      refine hq_p 1 18 [some (.ref 174), some (.int a1), some (.int a2), none, none, none, none] [.int a2] (fun n h => rfl) ?_
      refine hq_bip (60 : Int32) rfl (by decide) ?_
      by_cases c5 : (60 : Int32) < a2
      · rw [if_pos c5] at h
        refine hq_icF rfl (hq_c_le_F c5) ?_
        refine hq_icn (-1 : Int32) rfl (by decide) ?_
        have h := Option.some.inj h
        subst h
        exact ⟨1, rfl⟩
      · rw [if_neg c5] at h
        refine hq_icT rfl (hq_c_le_T c5) ?_
        refine hq_p 3 28 [some (.ref 174), some (.int a1), some (.int a2), none, none, none, none] [.int a1, .int (0 : Int32), .ref 174] (fun n h => rfl) ?_
        obtain ⟨y6, hy6, h⟩ := hq_bind h
        refine hq_inv rfl rfl (Nat.le_trans (by decide) hd) rfl rfl (hq_rcv rfl rfl) (f_X12_isFree_run (Nat.le_sub_of_add_le (Nat.le_trans (by decide) hd)) hy6) rfl ?_
        by_cases c7 : y6.1 = 0
        · rw [if_pos c7] at h
          refine hq_izF rfl (hq_c_ne_F c7) ?_
          refine hq_p 1 35 [some (.ref 174), some (.int a1), some (.int a2), none, none, none, none] [.int (0 : Int32)] (fun n h => rfl) ?_
          have h := Option.some.inj h
          subst h
          exact ⟨1, rfl⟩
        · rw [if_neg c7] at h
          refine hq_izT rfl (hq_c_ne_T c7) ?_
          refine hq_p 3 39 [some (.ref 174), some (.int a1), some (.int a2), none, none, none, none] [.int (0 : Int32), .int (1 : Int32), .ref 174] (fun n h => rfl) ?_
          obtain ⟨s8, hs8, h⟩ := hq_bind h
          refine hq_inv rfl rfl (Nat.le_trans (by decide) hd) rfl rfl (hq_rcv rfl rfl) (f_X12_copies_run (Nat.le_sub_of_add_le (Nat.le_trans (by decide) hd)) hs8) rfl ?_
          refine hq_p 2 44 [some (.ref 174), some (.int a1), some (.int a2), none, none, none, none] [.ref 174, .int (1 : Int32)] (fun n h => rfl) ?_
          refine hq_gf (x := .ref 203) rfl rfl rfl rfl rfl ?_
          refine hq_p 1 48 [some (.ref 174), some (.int a1), some (.int a2), none, none, none, none] [.int a1, .ref 203, .int (1 : Int32)] (fun n h => rfl) ?_
          obtain ⟨x9, hx9, h⟩ := hq_bind h
          refine hq_iaload rfl rfl List.length_replicate hx9 ?_
          refine hq_p 4 54 [some (.ref 174), some (.int a1), some (.int a2), some (.int ((1 : Int32) <<< (x9 &&& 31))), some (.int (0 : Int32)), none, none] [] (fun n h => rfl) ?_
          exact f_X12_could_L54_run hd h
def f_X12_unseen_L28_B (n : Nat) (q28 : Int32 → Int32 → Int32 → Int32 → hq_S → Option (Int32 × hq_S)) (a1 : Int32) (a2 : Int32) (a3 : Int32) (a4 : Int32) (s : hq_S) : Option (Int32 × hq_S) := if a4 < (60 : Int32) then (f_X12_passes n (1 : Int32) (0 : Int32) s).bind fun s6 => (f_X12_farOf n (1 : Int32) a1 s6).bind fun y7 => (if y7.1 < (2 : Int32) then some (0 : Int32) else some (a3 + (1 : Int32))).bind fun z8 => q28 a1 (hq_max a2 z8) z8 (a4 + (1 : Int32)) y7.2 else some (a2, s)
def f_X12_unseen_L28 (n : Nat) (m : Nat) : Int32 → Int32 → Int32 → Int32 → hq_S → Option (Int32 × hq_S) := Nat.rec (fun _ _ _ _ _ => none) (fun _ q => f_X12_unseen_L28_B n q) m
theorem f_X12_unseen_L28_Brun {xs : List Int32} {n d g : Nat} {a1 : Int32} {a2 : Int32} {a3 : Int32} {a4 : Int32} {q28 : Int32 → Int32 → Int32 → Int32 → hq_S → Option (Int32 × hq_S)} {s : hq_S} {y : (Int32 × hq_S)} (hd : 6 ≤ d) (e28 : ∀ (a1 : Int32) (a2 : Int32) (a3 : Int32) (a4 : Int32) (s : hq_S), q28 a1 a2 a3 a4 s = some y → hq_R (mm_O xs) d mc_X12_unseen 28 [some (.ref 174), some (.int a1), some (.int a2), some (.int a3), some (.int a4)] [] s g (some (.int y.1)) y.2) (h : f_X12_unseen_L28_B n q28 a1 a2 a3 a4 s = some y) : hq_R (mm_O xs) d mc_X12_unseen 28 [some (.ref 174), some (.int a1), some (.int a2), some (.int a3), some (.int a4)] [] s g (some (.int y.1)) y.2 := by
  unfold f_X12_unseen_L28_B at h
  refine hq_p 1 30 [some (.ref 174), some (.int a1), some (.int a2), some (.int a3), some (.int a4)] [.int a4] (fun n h => rfl) ?_
  refine hq_bip (60 : Int32) rfl (by decide) ?_
  by_cases c5 : a4 < (60 : Int32)
  · rw [if_pos c5] at h
    refine hq_icF rfl (hq_c_ge_F c5) ?_
    refine hq_p 3 38 [some (.ref 174), some (.int a1), some (.int a2), some (.int a3), some (.int a4)] [.int (0 : Int32), .int (1 : Int32), .ref 174] (fun n h => rfl) ?_
    obtain ⟨s6, hs6, h⟩ := hq_bind h
    refine hq_inv rfl rfl (Nat.le_trans (by decide) hd) rfl rfl (hq_rcv rfl rfl) (f_X12_passes_run (Nat.le_sub_of_add_le (Nat.le_trans (by decide) hd)) hs6) rfl ?_
    refine hq_p 3 44 [some (.ref 174), some (.int a1), some (.int a2), some (.int a3), some (.int a4)] [.int a1, .int (1 : Int32), .ref 174] (fun n h => rfl) ?_
    obtain ⟨y7, hy7, h⟩ := hq_bind h
    refine hq_inv rfl rfl (Nat.le_trans (by decide) hd) rfl rfl (hq_rcv rfl rfl) (f_X12_farOf_run (Nat.le_sub_of_add_le (Nat.le_trans (by decide) hd)) hy7) rfl ?_
    refine hq_p 1 48 [some (.ref 174), some (.int a1), some (.int a2), some (.int a3), some (.int a4)] [.int (2 : Int32), .int y7.1] (fun n h => rfl) ?_
    obtain ⟨z8, hz8, h⟩ := hq_bind h
    suffices hT : hq_R (mm_O xs) d mc_X12_unseen 58 [some (.ref 174), some (.int a1), some (.int a2), some (.int a3), some (.int a4)] [.int z8] y7.2 g (some (.int y.1)) y.2 from by
      clear h
      have h := hz8
      by_cases c9 : y7.1 < (2 : Int32)
      · rw [if_pos c9] at h
        refine hq_icF rfl (hq_c_ge_F c9) ?_
        refine hq_p 2 58 [some (.ref 174), some (.int a1), some (.int a2), some (.int a3), some (.int a4)] [.int (0 : Int32)] (fun n h => rfl) ?_
        cases h
        exact hT
      · rw [if_neg c9] at h
        refine hq_icT rfl (hq_c_ge_T c9) ?_
        refine hq_p 3 58 [some (.ref 174), some (.int a1), some (.int a2), some (.int a3), some (.int a4)] [.int (a3 + (1 : Int32))] (fun n h => rfl) ?_
        cases h
        exact hT
    refine hq_p 3 61 [some (.ref 174), some (.int a1), some (.int a2), some (.int z8), some (.int a4)] [.int z8, .int a2] (fun n h => rfl) ?_
    refine hq_math rfl rfl rfl (Nat.le_trans (by decide) hd) ?_
    refine hq_p 3 28 [some (.ref 174), some (.int a1), some (.int (hq_max a2 z8)), some (.int z8), some (.int (a4 + (1 : Int32)))] [] (fun n h => rfl) ?_
    exact e28 a1 (hq_max a2 z8) z8 (a4 + (1 : Int32)) y7.2 h
  · rw [if_neg c5] at h
    refine hq_icT rfl (hq_c_ge_T c5) ?_
    refine hq_p 1 72 [some (.ref 174), some (.int a1), some (.int a2), some (.int a3), some (.int a4)] [.int a2] (fun n h => rfl) ?_
    have h := Option.some.inj h
    subst h
    exact ⟨1, rfl⟩
theorem f_X12_unseen_L28_run {xs : List Int32} {n m d g : Nat} {a1 : Int32} {a2 : Int32} {a3 : Int32} {a4 : Int32} {s : hq_S} {y : (Int32 × hq_S)} (hd : 6 ≤ d) (h : f_X12_unseen_L28 n m a1 a2 a3 a4 s = some y) : hq_R (mm_O xs) d mc_X12_unseen 28 [some (.ref 174), some (.int a1), some (.int a2), some (.int a3), some (.int a4)] [] s g (some (.int y.1)) y.2 := by
  induction m generalizing a1 a2 a3 a4 s with
  | zero => cases h
  | succ m ih => exact f_X12_unseen_L28_Brun (n := n) hd (fun a1 a2 a3 a4 s h => ih h) h
def f_X12_unseen (n : Nat) (a1 : Int32) (s : hq_S) : Option (Int32 × hq_S) := (hq_pi s 174 0 0 (0 : Int32)).bind fun s1 => (f_X12_isCorner n a1 s1).bind fun y2 => if y2.1 = 0 then some ((-1 : Int32), y2.2) else (f_X12_copies n (1 : Int32) (0 : Int32) y2.2).bind fun s4 => f_X12_unseen_L28 n n a1 (0 : Int32) (0 : Int32) (0 : Int32) s4
theorem f_X12_unseen_run {xs : List Int32} {n d g : Nat} {a1 : Int32} {s : hq_S} {y : (Int32 × hq_S)} (hd : 6 ≤ d) (h : f_X12_unseen n a1 s = some y) : hq_R (mm_O xs) d mc_X12_unseen 0 [some (.ref 174), some (.int a1), none, none, none] [] s g (some (.int y.1)) y.2 := by
  unfold f_X12_unseen at h
  refine hq_p 2 2 [some (.ref 174), some (.int a1), none, none, none] [.int (0 : Int32), .ref 174] (fun n h => rfl) ?_
  obtain ⟨s1, hs1, h⟩ := hq_bind h
  refine hq_pfi rfl rfl rfl rfl rfl hs1 ?_
  refine hq_p 2 7 [some (.ref 174), some (.int a1), none, none, none] [.int a1, .ref 174] (fun n h => rfl) ?_
  obtain ⟨y2, hy2, h⟩ := hq_bind h
  refine hq_inv rfl rfl (Nat.le_trans (by decide) hd) rfl rfl (hq_rcv rfl rfl) (f_X12_isCorner_run (Nat.le_sub_of_add_le (Nat.le_trans (by decide) hd)) hy2) rfl ?_
  by_cases c3 : y2.1 = 0
  · rw [if_pos c3] at h
    refine hq_izF rfl (hq_c_ne_F c3) ?_
    refine hq_icn (-1 : Int32) rfl (by decide) ?_
    have h := Option.some.inj h
    subst h
    exact ⟨1, rfl⟩
  · rw [if_neg c3] at h
    refine hq_izT rfl (hq_c_ne_T c3) ?_
    refine hq_p 3 18 [some (.ref 174), some (.int a1), none, none, none] [.int (0 : Int32), .int (1 : Int32), .ref 174] (fun n h => rfl) ?_
    obtain ⟨s4, hs4, h⟩ := hq_bind h
    refine hq_inv rfl rfl (Nat.le_trans (by decide) hd) rfl rfl (hq_rcv rfl rfl) (f_X12_copies_run (Nat.le_sub_of_add_le (Nat.le_trans (by decide) hd)) hs4) rfl ?_
    refine hq_p 6 28 [some (.ref 174), some (.int a1), some (.int (0 : Int32)), some (.int (0 : Int32)), some (.int (0 : Int32))] [] (fun n h => rfl) ?_
    exact f_X12_unseen_L28_run hd h
def f_X12_goesFrom_L5_B (n : Nat) (q5 : Int32 → Int32 → Int32 → Int32 → hq_S → Option (Int32 × hq_S)) (a1 : Int32) (a2 : Int32) (a3 : Int32) (a4 : Int32) (s : hq_S) : Option (Int32 × hq_S) := (hq_ld s 176 14 (0 : Int32)).bind fun x1 => if a4 < x1 then (hq_irem a1 (1024 : Int32)).bind fun x3 => (hq_idiv a1 (1024 : Int32)).bind fun x4 => (hq_ld s 206 10 x4).bind fun x5 => (if ((x5 >>> (a4 &&& 31)) &&& (1 : Int32)) = 0 then some (a3, s) else (hq_ld s 218 10240 (((1024 : Int32) * a4) + (x3 ||| ((1 : Int32) <<< (a4 &&& 31))))).bind fun x8 => if x8 = (-1 : Int32) then (hq_st s 218 10240 (((1024 : Int32) * a4) + (x3 ||| ((1 : Int32) <<< (a4 &&& 31)))) (a2 + (1 : Int32))).bind fun s10 => some ((1 : Int32), s10) else some (a3, s)).bind fun z6 => q5 a1 a2 z6.1 (a4 + (1 : Int32)) z6.2 else if mm_rfit (mm_ret mc_X12_goesFrom) a3 = true then some (a3, s) else none
def f_X12_goesFrom_L5 (n : Nat) (m : Nat) : Int32 → Int32 → Int32 → Int32 → hq_S → Option (Int32 × hq_S) := Nat.rec (fun _ _ _ _ _ => none) (fun _ q => f_X12_goesFrom_L5_B n q) m
theorem f_X12_goesFrom_L5_Brun {xs : List Int32} {n d g : Nat} {a1 : Int32} {a2 : Int32} {a3 : Int32} {a4 : Int32} {o5 : Option Value} {q5 : Int32 → Int32 → Int32 → Int32 → hq_S → Option (Int32 × hq_S)} {s : hq_S} {y : (Int32 × hq_S)} (hd : 0 ≤ d) (e5 : ∀ (a1 : Int32) (a2 : Int32) (a3 : Int32) (a4 : Int32) (o5 : Option Value) (s : hq_S), q5 a1 a2 a3 a4 s = some y → hq_R (mm_O xs) d mc_X12_goesFrom 5 [some (.ref 174), some (.int a1), some (.int a2), some (.int a3), some (.int a4), o5] [] s g (some (.int y.1)) y.2) (h : f_X12_goesFrom_L5_B n q5 a1 a2 a3 a4 s = some y) : hq_R (mm_O xs) d mc_X12_goesFrom 5 [some (.ref 174), some (.int a1), some (.int a2), some (.int a3), some (.int a4), o5] [] s g (some (.int y.1)) y.2 := by
  unfold f_X12_goesFrom_L5_B at h
  refine hq_p 2 8 [some (.ref 174), some (.int a1), some (.int a2), some (.int a3), some (.int a4), o5] [.ref 174, .int a4] (fun n h => rfl) ?_
  refine hq_gf (x := .ref 176) rfl rfl rfl rfl rfl ?_
  refine hq_p 1 12 [some (.ref 174), some (.int a1), some (.int a2), some (.int a3), some (.int a4), o5] [.int (0 : Int32), .ref 176, .int a4] (fun n h => rfl) ?_
  obtain ⟨x1, hx1, h⟩ := hq_bind h
  refine hq_iaload rfl rfl rfl hx1 ?_
  by_cases c2 : a4 < x1
  · rw [if_pos c2] at h
    refine hq_icF rfl (hq_c_ge_F c2) ?_
    refine hq_sip (1024 : Int32) rfl (by decide) ?_
    refine hq_p 3 23 [some (.ref 174), some (.int a1), some (.int a2), some (.int a3), some (.int a4), o5] [.int a1, .int ((1024 : Int32) * a4)] (fun n h => rfl) ?_
    refine hq_sip (1024 : Int32) rfl (by decide) ?_
    obtain ⟨x3, hx3, h⟩ := hq_bind h
    refine hq_irem_ rfl hx3 ?_
    refine hq_p 7 36 [some (.ref 174), some (.int a1), some (.int a2), some (.int a3), some (.int a4), some (.int (((1024 : Int32) * a4) + (x3 ||| ((1 : Int32) <<< (a4 &&& 31)))))] [.ref 174] (fun n h => rfl) ?_
    refine hq_gf (x := .ref 206) rfl rfl rfl rfl rfl ?_
    refine hq_p 1 40 [some (.ref 174), some (.int a1), some (.int a2), some (.int a3), some (.int a4), some (.int (((1024 : Int32) * a4) + (x3 ||| ((1 : Int32) <<< (a4 &&& 31)))))] [.int a1, .ref 206] (fun n h => rfl) ?_
    refine hq_sip (1024 : Int32) rfl (by decide) ?_
    obtain ⟨x4, hx4, h⟩ := hq_bind h
    refine hq_idiv_ rfl hx4 ?_
    obtain ⟨x5, hx5, h⟩ := hq_bind h
    refine hq_iaload rfl rfl List.length_replicate hx5 ?_
    refine hq_p 4 50 [some (.ref 174), some (.int a1), some (.int a2), some (.int a3), some (.int a4), some (.int (((1024 : Int32) * a4) + (x3 ||| ((1 : Int32) <<< (a4 &&& 31)))))] [.int ((x5 >>> (a4 &&& 31)) &&& (1 : Int32))] (fun n h => rfl) ?_
    obtain ⟨z6, hz6, h⟩ := hq_bind h
    suffices hT : hq_R (mm_O xs) d mc_X12_goesFrom 79 [some (.ref 174), some (.int a1), some (.int a2), some (.int z6.1), some (.int a4), some (.int (((1024 : Int32) * a4) + (x3 ||| ((1 : Int32) <<< (a4 &&& 31)))))] [] z6.2 g (some (.int y.1)) y.2 from by
      clear h
      have h := hz6
      by_cases c7 : ((x5 >>> (a4 &&& 31)) &&& (1 : Int32)) = 0
      · rw [if_pos c7] at h
        refine hq_izT rfl (hq_c_eq_T c7) ?_
        cases h
        exact hT
      · rw [if_neg c7] at h
        refine hq_izF rfl (hq_c_eq_F c7) ?_
        refine hq_p 1 54 [some (.ref 174), some (.int a1), some (.int a2), some (.int a3), some (.int a4), some (.int (((1024 : Int32) * a4) + (x3 ||| ((1 : Int32) <<< (a4 &&& 31)))))] [.ref 174] (fun n h => rfl) ?_
        refine hq_gf (x := .ref 218) rfl rfl rfl rfl rfl ?_
        refine hq_p 1 59 [some (.ref 174), some (.int a1), some (.int a2), some (.int a3), some (.int a4), some (.int (((1024 : Int32) * a4) + (x3 ||| ((1 : Int32) <<< (a4 &&& 31)))))] [.int (((1024 : Int32) * a4) + (x3 ||| ((1 : Int32) <<< (a4 &&& 31)))), .ref 218] (fun n h => rfl) ?_
        obtain ⟨x8, hx8, h⟩ := hq_bind h
        refine hq_iaload rfl rfl List.length_replicate hx8 ?_
        refine hq_icn (-1 : Int32) rfl (by decide) ?_
        by_cases c9 : x8 = (-1 : Int32)
        · rw [if_pos c9] at h
          refine hq_icT rfl (hq_c_eq_T c9) ?_
          refine hq_p 1 68 [some (.ref 174), some (.int a1), some (.int a2), some (.int a3), some (.int a4), some (.int (((1024 : Int32) * a4) + (x3 ||| ((1 : Int32) <<< (a4 &&& 31)))))] [.ref 174] (fun n h => rfl) ?_
          refine hq_gf (x := .ref 218) rfl rfl rfl rfl rfl ?_
          refine hq_p 4 76 [some (.ref 174), some (.int a1), some (.int a2), some (.int a3), some (.int a4), some (.int (((1024 : Int32) * a4) + (x3 ||| ((1 : Int32) <<< (a4 &&& 31)))))] [.int (a2 + (1 : Int32)), .int (((1024 : Int32) * a4) + (x3 ||| ((1 : Int32) <<< (a4 &&& 31)))), .ref 218] (fun n h => rfl) ?_
          obtain ⟨s10, hs10, h⟩ := hq_bind h
          refine hq_iastore rfl rfl List.length_replicate hs10 ?_
          refine hq_p 2 79 [some (.ref 174), some (.int a1), some (.int a2), some (.int (1 : Int32)), some (.int a4), some (.int (((1024 : Int32) * a4) + (x3 ||| ((1 : Int32) <<< (a4 &&& 31)))))] [] (fun n h => rfl) ?_
          cases h
          exact hT
        · rw [if_neg c9] at h
          refine hq_icF rfl (hq_c_eq_F c9) ?_
          refine hq_p 1 79 [some (.ref 174), some (.int a1), some (.int a2), some (.int a3), some (.int a4), some (.int (((1024 : Int32) * a4) + (x3 ||| ((1 : Int32) <<< (a4 &&& 31)))))] [] (fun n h => rfl) ?_
          cases h
          exact hT
    refine hq_p 2 5 [some (.ref 174), some (.int a1), some (.int a2), some (.int z6.1), some (.int (a4 + (1 : Int32))), some (.int (((1024 : Int32) * a4) + (x3 ||| ((1 : Int32) <<< (a4 &&& 31)))))] [] (fun n h => rfl) ?_
    exact e5 a1 a2 z6.1 (a4 + (1 : Int32)) _ z6.2 h
  · rw [if_neg c2] at h
    refine hq_icT rfl (hq_c_ge_T c2) ?_
    refine hq_p 1 86 [some (.ref 174), some (.int a1), some (.int a2), some (.int a3), some (.int a4), o5] [.int a3] (fun n h => rfl) ?_
    have hr : mm_rfit (mm_ret mc_X12_goesFrom) a3 = true := hq_ifT h
    rw [if_pos hr] at h
    have h := Option.some.inj h
    subst h
    exact hq_iret rfl hr
theorem f_X12_goesFrom_L5_run {xs : List Int32} {n m d g : Nat} {a1 : Int32} {a2 : Int32} {a3 : Int32} {a4 : Int32} {o5 : Option Value} {s : hq_S} {y : (Int32 × hq_S)} (hd : 0 ≤ d) (h : f_X12_goesFrom_L5 n m a1 a2 a3 a4 s = some y) : hq_R (mm_O xs) d mc_X12_goesFrom 5 [some (.ref 174), some (.int a1), some (.int a2), some (.int a3), some (.int a4), o5] [] s g (some (.int y.1)) y.2 := by
  induction m generalizing a1 a2 a3 a4 o5 s with
  | zero => cases h
  | succ m ih => exact f_X12_goesFrom_L5_Brun (n := n) hd (fun a1 a2 a3 a4 o5 s h => ih h) h
def f_X12_goesFrom (n : Nat) (a1 : Int32) (a2 : Int32) (s : hq_S) : Option (Int32 × hq_S) := f_X12_goesFrom_L5 n n a1 a2 (0 : Int32) (0 : Int32) s
theorem f_X12_goesFrom_run {xs : List Int32} {n d g : Nat} {a1 : Int32} {a2 : Int32} {s : hq_S} {y : (Int32 × hq_S)} (hd : 0 ≤ d) (h : f_X12_goesFrom n a1 a2 s = some y) : hq_R (mm_O xs) d mc_X12_goesFrom 0 [some (.ref 174), some (.int a1), some (.int a2), none, none, none] [] s g (some (.int y.1)) y.2 := by
  unfold f_X12_goesFrom at h
  refine hq_p 4 5 [some (.ref 174), some (.int a1), some (.int a2), some (.int (0 : Int32)), some (.int (0 : Int32)), none] [] (fun n h => rfl) ?_
  exact f_X12_goesFrom_L5_run hd h
def f_X12_round_J136 (n : Nat) (q73 : Int32 → Int32 → Int32 → Int32 → hq_S → Option (Int32 × hq_S)) (q82 : Int32 → Int32 → Int32 → Int32 → Int32 → hq_S → Option (Int32 × hq_S)) (a1 : Int32) (a2 : Int32) (a3 : Int32) (a4 : Int32) (a5 : Int32) (s : hq_S) : Option (Int32 × hq_S) := q82 a1 a2 a3 a4 (a5 + (1 : Int32)) s
theorem f_X12_round_J136_run {xs : List Int32} {n d g : Nat} {a1 : Int32} {a2 : Int32} {a3 : Int32} {a4 : Int32} {a5 : Int32} {q73 : Int32 → Int32 → Int32 → Int32 → hq_S → Option (Int32 × hq_S)} {q82 : Int32 → Int32 → Int32 → Int32 → Int32 → hq_S → Option (Int32 × hq_S)} {s : hq_S} {y : (Int32 × hq_S)} (hd : 2 ≤ d) (e73 : ∀ (a1 : Int32) (a2 : Int32) (a3 : Int32) (a4 : Int32) (o5 : Option Value) (s : hq_S), q73 a1 a2 a3 a4 s = some y → hq_R (mm_O xs) d mc_X12_round 73 [some (.ref 174), some (.int a1), some (.int a2), some (.int a3), some (.int a4), o5] [] s g (some (.int y.1)) y.2) (e82 : ∀ (a1 : Int32) (a2 : Int32) (a3 : Int32) (a4 : Int32) (a5 : Int32) (s : hq_S), q82 a1 a2 a3 a4 a5 s = some y → hq_R (mm_O xs) d mc_X12_round 82 [some (.ref 174), some (.int a1), some (.int a2), some (.int a3), some (.int a4), some (.int a5)] [] s g (some (.int y.1)) y.2) (h : f_X12_round_J136 n q73 q82 a1 a2 a3 a4 a5 s = some y) : hq_R (mm_O xs) d mc_X12_round 136 [some (.ref 174), some (.int a1), some (.int a2), some (.int a3), some (.int a4), some (.int a5)] [] s g (some (.int y.1)) y.2 := by
  unfold f_X12_round_J136 at h
  refine hq_p 2 82 [some (.ref 174), some (.int a1), some (.int a2), some (.int a3), some (.int a4), some (.int (a5 + (1 : Int32)))] [] (fun n h => rfl) ?_
  exact e82 a1 a2 a3 a4 (a5 + (1 : Int32)) s h
def f_X12_round_L82_B (n : Nat) (q73 : Int32 → Int32 → Int32 → Int32 → hq_S → Option (Int32 × hq_S)) (q82 : Int32 → Int32 → Int32 → Int32 → Int32 → hq_S → Option (Int32 × hq_S)) (a1 : Int32) (a2 : Int32) (a3 : Int32) (a4 : Int32) (a5 : Int32) (s : hq_S) : Option (Int32 × hq_S) := (hq_ld s 176 14 (0 : Int32)).bind fun x9 => if a5 < ((1024 : Int32) * x9) then (hq_ld s 218 10240 a5).bind fun x11 => if x11 = a4 then (hq_irem a5 (1024 : Int32)).bind fun x13 => if x13 = a2 then some (a4, s) else (f_X12_goesFrom n a5 a4 s).bind fun y15 => f_X12_round_J136 n q73 q82 a1 a2 (a3 ||| y15.1) a4 a5 y15.2 else f_X12_round_J136 n q73 q82 a1 a2 a3 a4 a5 s else q73 a1 a2 a3 (a4 + (1 : Int32)) s
def f_X12_round_L82 (n : Nat) (q73 : Int32 → Int32 → Int32 → Int32 → hq_S → Option (Int32 × hq_S)) (m : Nat) : Int32 → Int32 → Int32 → Int32 → Int32 → hq_S → Option (Int32 × hq_S) := Nat.rec (fun _ _ _ _ _ _ => none) (fun _ q => f_X12_round_L82_B n q73 q) m
theorem f_X12_round_L82_Brun {xs : List Int32} {n d g : Nat} {a1 : Int32} {a2 : Int32} {a3 : Int32} {a4 : Int32} {a5 : Int32} {q73 : Int32 → Int32 → Int32 → Int32 → hq_S → Option (Int32 × hq_S)} {q82 : Int32 → Int32 → Int32 → Int32 → Int32 → hq_S → Option (Int32 × hq_S)} {s : hq_S} {y : (Int32 × hq_S)} (hd : 2 ≤ d) (e73 : ∀ (a1 : Int32) (a2 : Int32) (a3 : Int32) (a4 : Int32) (o5 : Option Value) (s : hq_S), q73 a1 a2 a3 a4 s = some y → hq_R (mm_O xs) d mc_X12_round 73 [some (.ref 174), some (.int a1), some (.int a2), some (.int a3), some (.int a4), o5] [] s g (some (.int y.1)) y.2) (e82 : ∀ (a1 : Int32) (a2 : Int32) (a3 : Int32) (a4 : Int32) (a5 : Int32) (s : hq_S), q82 a1 a2 a3 a4 a5 s = some y → hq_R (mm_O xs) d mc_X12_round 82 [some (.ref 174), some (.int a1), some (.int a2), some (.int a3), some (.int a4), some (.int a5)] [] s g (some (.int y.1)) y.2) (h : f_X12_round_L82_B n q73 q82 a1 a2 a3 a4 a5 s = some y) : hq_R (mm_O xs) d mc_X12_round 82 [some (.ref 174), some (.int a1), some (.int a2), some (.int a3), some (.int a4), some (.int a5)] [] s g (some (.int y.1)) y.2 := by
  unfold f_X12_round_L82_B at h
  refine hq_p 1 84 [some (.ref 174), some (.int a1), some (.int a2), some (.int a3), some (.int a4), some (.int a5)] [.int a5] (fun n h => rfl) ?_
  refine hq_sip (1024 : Int32) rfl (by decide) ?_
  refine hq_p 1 88 [some (.ref 174), some (.int a1), some (.int a2), some (.int a3), some (.int a4), some (.int a5)] [.ref 174, .int (1024 : Int32), .int a5] (fun n h => rfl) ?_
  refine hq_gf (x := .ref 176) rfl rfl rfl rfl rfl ?_
  refine hq_p 1 92 [some (.ref 174), some (.int a1), some (.int a2), some (.int a3), some (.int a4), some (.int a5)] [.int (0 : Int32), .ref 176, .int (1024 : Int32), .int a5] (fun n h => rfl) ?_
  obtain ⟨x9, hx9, h⟩ := hq_bind h
  refine hq_iaload rfl rfl rfl hx9 ?_
  refine hq_p 1 94 [some (.ref 174), some (.int a1), some (.int a2), some (.int a3), some (.int a4), some (.int a5)] [.int ((1024 : Int32) * x9), .int a5] (fun n h => rfl) ?_
  by_cases c10 : a5 < ((1024 : Int32) * x9)
  · rw [if_pos c10] at h
    refine hq_icF rfl (hq_c_ge_F c10) ?_
    refine hq_p 1 98 [some (.ref 174), some (.int a1), some (.int a2), some (.int a3), some (.int a4), some (.int a5)] [.ref 174] (fun n h => rfl) ?_
    refine hq_gf (x := .ref 218) rfl rfl rfl rfl rfl ?_
    refine hq_p 1 103 [some (.ref 174), some (.int a1), some (.int a2), some (.int a3), some (.int a4), some (.int a5)] [.int a5, .ref 218] (fun n h => rfl) ?_
    obtain ⟨x11, hx11, h⟩ := hq_bind h
    refine hq_iaload rfl rfl List.length_replicate hx11 ?_
    refine hq_p 1 106 [some (.ref 174), some (.int a1), some (.int a2), some (.int a3), some (.int a4), some (.int a5)] [.int a4, .int x11] (fun n h => rfl) ?_
    by_cases c12 : x11 = a4
    · rw [if_pos c12] at h
      refine hq_icT rfl (hq_c_eq_T c12) ?_
      refine hq_p 1 114 [some (.ref 174), some (.int a1), some (.int a2), some (.int a3), some (.int a4), some (.int a5)] [.int a5] (fun n h => rfl) ?_
      refine hq_sip (1024 : Int32) rfl (by decide) ?_
      obtain ⟨x13, hx13, h⟩ := hq_bind h
      refine hq_irem_ rfl hx13 ?_
      refine hq_p 1 119 [some (.ref 174), some (.int a1), some (.int a2), some (.int a3), some (.int a4), some (.int a5)] [.int a2, .int x13] (fun n h => rfl) ?_
      by_cases c14 : x13 = a2
      · rw [if_pos c14] at h
        refine hq_icF rfl (hq_c_ne_F c14) ?_
        refine hq_p 1 124 [some (.ref 174), some (.int a1), some (.int a2), some (.int a3), some (.int a4), some (.int a5)] [.int a4] (fun n h => rfl) ?_
        have h := Option.some.inj h
        subst h
        exact ⟨1, rfl⟩
      · rw [if_neg c14] at h
        refine hq_icT rfl (hq_c_ne_T c14) ?_
        refine hq_p 4 131 [some (.ref 174), some (.int a1), some (.int a2), some (.int a3), some (.int a4), some (.int a5)] [.int a4, .int a5, .ref 174, .int a3] (fun n h => rfl) ?_
        obtain ⟨y15, hy15, h⟩ := hq_bind h
        refine hq_inv rfl rfl (Nat.le_trans (by decide) hd) rfl rfl (hq_rcv rfl rfl) (f_X12_goesFrom_run (Nat.le_sub_of_add_le (Nat.le_trans (by decide) hd)) hy15) rfl ?_
        refine hq_p 2 136 [some (.ref 174), some (.int a1), some (.int a2), some (.int (a3 ||| y15.1)), some (.int a4), some (.int a5)] [] (fun n h => rfl) ?_
        exact f_X12_round_J136_run hd e73 e82 h
    · rw [if_neg c12] at h
      refine hq_icF rfl (hq_c_eq_F c12) ?_
      refine hq_p 1 136 [some (.ref 174), some (.int a1), some (.int a2), some (.int a3), some (.int a4), some (.int a5)] [] (fun n h => rfl) ?_
      exact f_X12_round_J136_run hd e73 e82 h
  · rw [if_neg c10] at h
    refine hq_icT rfl (hq_c_ge_T c10) ?_
    refine hq_p 2 73 [some (.ref 174), some (.int a1), some (.int a2), some (.int a3), some (.int (a4 + (1 : Int32))), some (.int a5)] [] (fun n h => rfl) ?_
    exact e73 a1 a2 a3 (a4 + (1 : Int32)) _ s h
theorem f_X12_round_L82_run {xs : List Int32} {n m d g : Nat} {a1 : Int32} {a2 : Int32} {a3 : Int32} {a4 : Int32} {a5 : Int32} {q73 : Int32 → Int32 → Int32 → Int32 → hq_S → Option (Int32 × hq_S)} {s : hq_S} {y : (Int32 × hq_S)} (hd : 2 ≤ d) (e73 : ∀ (a1 : Int32) (a2 : Int32) (a3 : Int32) (a4 : Int32) (o5 : Option Value) (s : hq_S), q73 a1 a2 a3 a4 s = some y → hq_R (mm_O xs) d mc_X12_round 73 [some (.ref 174), some (.int a1), some (.int a2), some (.int a3), some (.int a4), o5] [] s g (some (.int y.1)) y.2) (h : f_X12_round_L82 n q73 m a1 a2 a3 a4 a5 s = some y) : hq_R (mm_O xs) d mc_X12_round 82 [some (.ref 174), some (.int a1), some (.int a2), some (.int a3), some (.int a4), some (.int a5)] [] s g (some (.int y.1)) y.2 := by
  induction m generalizing a1 a2 a3 a4 a5 s with
  | zero => cases h
  | succ m ih => exact f_X12_round_L82_Brun (n := n) hd e73 (fun a1 a2 a3 a4 a5 s h => ih h) h
def f_X12_round_L73_B (n : Nat) (q73 : Int32 → Int32 → Int32 → Int32 → hq_S → Option (Int32 × hq_S)) (a1 : Int32) (a2 : Int32) (a3 : Int32) (a4 : Int32) (s : hq_S) : Option (Int32 × hq_S) := if a3 = 0 then some ((-2 : Int32), s) else f_X12_round_L82 n q73 n a1 a2 (0 : Int32) a4 (0 : Int32) s
def f_X12_round_L73 (n : Nat) (m : Nat) : Int32 → Int32 → Int32 → Int32 → hq_S → Option (Int32 × hq_S) := Nat.rec (fun _ _ _ _ _ => none) (fun _ q => f_X12_round_L73_B n q) m
theorem f_X12_round_L73_Brun {xs : List Int32} {n d g : Nat} {a1 : Int32} {a2 : Int32} {a3 : Int32} {a4 : Int32} {o5 : Option Value} {q73 : Int32 → Int32 → Int32 → Int32 → hq_S → Option (Int32 × hq_S)} {s : hq_S} {y : (Int32 × hq_S)} (hd : 2 ≤ d) (e73 : ∀ (a1 : Int32) (a2 : Int32) (a3 : Int32) (a4 : Int32) (o5 : Option Value) (s : hq_S), q73 a1 a2 a3 a4 s = some y → hq_R (mm_O xs) d mc_X12_round 73 [some (.ref 174), some (.int a1), some (.int a2), some (.int a3), some (.int a4), o5] [] s g (some (.int y.1)) y.2) (h : f_X12_round_L73_B n q73 a1 a2 a3 a4 s = some y) : hq_R (mm_O xs) d mc_X12_round 73 [some (.ref 174), some (.int a1), some (.int a2), some (.int a3), some (.int a4), o5] [] s g (some (.int y.1)) y.2 := by
  unfold f_X12_round_L73_B at h
  refine hq_p 1 74 [some (.ref 174), some (.int a1), some (.int a2), some (.int a3), some (.int a4), o5] [.int a3] (fun n h => rfl) ?_
  by_cases c8 : a3 = 0
  · rw [if_pos c8] at h
    refine hq_izT rfl (hq_c_eq_T c8) ?_
    refine hq_bip (-2 : Int32) rfl (by decide) ?_
    have h := Option.some.inj h
    subst h
    exact ⟨1, rfl⟩
  · rw [if_neg c8] at h
    refine hq_izF rfl (hq_c_eq_F c8) ?_
    refine hq_p 4 82 [some (.ref 174), some (.int a1), some (.int a2), some (.int (0 : Int32)), some (.int a4), some (.int (0 : Int32))] [] (fun n h => rfl) ?_
    exact f_X12_round_L82_run hd e73 h
theorem f_X12_round_L73_run {xs : List Int32} {n m d g : Nat} {a1 : Int32} {a2 : Int32} {a3 : Int32} {a4 : Int32} {o5 : Option Value} {s : hq_S} {y : (Int32 × hq_S)} (hd : 2 ≤ d) (h : f_X12_round_L73 n m a1 a2 a3 a4 s = some y) : hq_R (mm_O xs) d mc_X12_round 73 [some (.ref 174), some (.int a1), some (.int a2), some (.int a3), some (.int a4), o5] [] s g (some (.int y.1)) y.2 := by
  induction m generalizing a1 a2 a3 a4 o5 s with
  | zero => cases h
  | succ m ih => exact f_X12_round_L73_Brun (n := n) hd (fun a1 a2 a3 a4 o5 s h => ih h) h
def f_X12_round_L33_B (n : Nat) (q33 : Int32 → Int32 → Int32 → hq_S → Option (Int32 × hq_S)) (a1 : Int32) (a2 : Int32) (a3 : Int32) (s : hq_S) : Option (Int32 × hq_S) := if a3 < (10240 : Int32) then (hq_st s 218 10240 a3 (-1 : Int32)).bind fun s16 => q33 a1 a2 (a3 + (1 : Int32)) s16 else (hq_st s 218 10240 (((1024 : Int32) * a1) + ((1 : Int32) <<< (a1 &&& 31))) (0 : Int32)).bind fun s7 => f_X12_round_L73 n n a1 a2 (1 : Int32) (0 : Int32) s7
def f_X12_round_L33 (n : Nat) (m : Nat) : Int32 → Int32 → Int32 → hq_S → Option (Int32 × hq_S) := Nat.rec (fun _ _ _ _ => none) (fun _ q => f_X12_round_L33_B n q) m
theorem f_X12_round_L33_Brun {xs : List Int32} {n d g : Nat} {a1 : Int32} {a2 : Int32} {a3 : Int32} {q33 : Int32 → Int32 → Int32 → hq_S → Option (Int32 × hq_S)} {s : hq_S} {y : (Int32 × hq_S)} (hd : 2 ≤ d) (e33 : ∀ (a1 : Int32) (a2 : Int32) (a3 : Int32) (s : hq_S), q33 a1 a2 a3 s = some y → hq_R (mm_O xs) d mc_X12_round 33 [some (.ref 174), some (.int a1), some (.int a2), some (.int a3), none, none] [] s g (some (.int y.1)) y.2) (h : f_X12_round_L33_B n q33 a1 a2 a3 s = some y) : hq_R (mm_O xs) d mc_X12_round 33 [some (.ref 174), some (.int a1), some (.int a2), some (.int a3), none, none] [] s g (some (.int y.1)) y.2 := by
  unfold f_X12_round_L33_B at h
  refine hq_p 1 34 [some (.ref 174), some (.int a1), some (.int a2), some (.int a3), none, none] [.int a3] (fun n h => rfl) ?_
  refine hq_sip (10240 : Int32) rfl (by decide) ?_
  by_cases c6 : a3 < (10240 : Int32)
  · rw [if_pos c6] at h
    refine hq_icF rfl (hq_c_ge_F c6) ?_
    refine hq_p 1 41 [some (.ref 174), some (.int a1), some (.int a2), some (.int a3), none, none] [.ref 174] (fun n h => rfl) ?_
    refine hq_gf (x := .ref 218) rfl rfl rfl rfl rfl ?_
    refine hq_p 1 45 [some (.ref 174), some (.int a1), some (.int a2), some (.int a3), none, none] [.int a3, .ref 218] (fun n h => rfl) ?_
    refine hq_icn (-1 : Int32) rfl (by decide) ?_
    obtain ⟨s16, hs16, h⟩ := hq_bind h
    refine hq_iastore rfl rfl List.length_replicate hs16 ?_
    refine hq_p 2 33 [some (.ref 174), some (.int a1), some (.int a2), some (.int (a3 + (1 : Int32))), none, none] [] (fun n h => rfl) ?_
    exact e33 a1 a2 (a3 + (1 : Int32)) s16 h
  · rw [if_neg c6] at h
    refine hq_icT rfl (hq_c_ge_T c6) ?_
    refine hq_p 1 54 [some (.ref 174), some (.int a1), some (.int a2), some (.int a3), none, none] [.ref 174] (fun n h => rfl) ?_
    refine hq_gf (x := .ref 218) rfl rfl rfl rfl rfl ?_
    refine hq_sip (1024 : Int32) rfl (by decide) ?_
    refine hq_p 7 67 [some (.ref 174), some (.int a1), some (.int a2), some (.int a3), none, none] [.int (0 : Int32), .int (((1024 : Int32) * a1) + ((1 : Int32) <<< (a1 &&& 31))), .ref 218] (fun n h => rfl) ?_
    obtain ⟨s7, hs7, h⟩ := hq_bind h
    refine hq_iastore rfl rfl List.length_replicate hs7 ?_
    refine hq_p 4 73 [some (.ref 174), some (.int a1), some (.int a2), some (.int (1 : Int32)), some (.int (0 : Int32)), none] [] (fun n h => rfl) ?_
    exact f_X12_round_L73_run hd h
theorem f_X12_round_L33_run {xs : List Int32} {n m d g : Nat} {a1 : Int32} {a2 : Int32} {a3 : Int32} {s : hq_S} {y : (Int32 × hq_S)} (hd : 2 ≤ d) (h : f_X12_round_L33 n m a1 a2 a3 s = some y) : hq_R (mm_O xs) d mc_X12_round 33 [some (.ref 174), some (.int a1), some (.int a2), some (.int a3), none, none] [] s g (some (.int y.1)) y.2 := by
  induction m generalizing a1 a2 a3 s with
  | zero => cases h
  | succ m ih => exact f_X12_round_L33_Brun (n := n) hd (fun a1 a2 a3 s h => ih h) h
def f_X12_round (n : Nat) (a1 : Int32) (s : hq_S) : Option (Int32 × hq_S) := (hq_pi s 174 0 0 (0 : Int32)).bind fun s1 => (f_X12_isCorner n a1 s1).bind fun y2 => if y2.1 = 0 then some ((-1 : Int32), y2.2) else (f_X12_lays n (0 : Int32) y2.2).bind fun s4 => (hq_ld s4 176 14 (0 : Int32)).bind fun x5 => f_X12_round_L33 n n a1 (((1 : Int32) <<< (x5 &&& 31)) - (1 : Int32)) (0 : Int32) s4
theorem f_X12_round_run {xs : List Int32} {n d g : Nat} {a1 : Int32} {s : hq_S} {y : (Int32 × hq_S)} (hd : 2 ≤ d) (h : f_X12_round n a1 s = some y) : hq_R (mm_O xs) d mc_X12_round 0 [some (.ref 174), some (.int a1), none, none, none, none] [] s g (some (.int y.1)) y.2 := by
  unfold f_X12_round at h
  refine hq_p 2 2 [some (.ref 174), some (.int a1), none, none, none, none] [.int (0 : Int32), .ref 174] (fun n h => rfl) ?_
  obtain ⟨s1, hs1, h⟩ := hq_bind h
  refine hq_pfi rfl rfl rfl rfl rfl hs1 ?_
  refine hq_p 2 7 [some (.ref 174), some (.int a1), none, none, none, none] [.int a1, .ref 174] (fun n h => rfl) ?_
  obtain ⟨y2, hy2, h⟩ := hq_bind h
  refine hq_inv rfl rfl (Nat.le_trans (by decide) hd) rfl rfl (hq_rcv rfl rfl) (f_X12_isCorner_run (Nat.le_sub_of_add_le (Nat.le_trans (by decide) hd)) hy2) rfl ?_
  by_cases c3 : y2.1 = 0
  · rw [if_pos c3] at h
    refine hq_izF rfl (hq_c_ne_F c3) ?_
    refine hq_icn (-1 : Int32) rfl (by decide) ?_
    have h := Option.some.inj h
    subst h
    exact ⟨1, rfl⟩
  · rw [if_neg c3] at h
    refine hq_izT rfl (hq_c_ne_T c3) ?_
    refine hq_p 2 17 [some (.ref 174), some (.int a1), none, none, none, none] [.int (0 : Int32), .ref 174] (fun n h => rfl) ?_
    obtain ⟨s4, hs4, h⟩ := hq_bind h
    refine hq_inv rfl rfl (Nat.le_trans (by decide) hd) rfl rfl (hq_rcv rfl rfl) (f_X12_lays_run (Nat.le_sub_of_add_le (Nat.le_trans (by decide) hd)) hs4) rfl ?_
    refine hq_p 2 22 [some (.ref 174), some (.int a1), none, none, none, none] [.ref 174, .int (1 : Int32)] (fun n h => rfl) ?_
    refine hq_gf (x := .ref 176) rfl rfl rfl rfl rfl ?_
    refine hq_p 1 26 [some (.ref 174), some (.int a1), none, none, none, none] [.int (0 : Int32), .ref 176, .int (1 : Int32)] (fun n h => rfl) ?_
    obtain ⟨x5, hx5, h⟩ := hq_bind h
    refine hq_iaload rfl rfl rfl hx5 ?_
    refine hq_p 6 33 [some (.ref 174), some (.int a1), some (.int (((1 : Int32) <<< (x5 &&& 31)) - (1 : Int32))), some (.int (0 : Int32)), none, none] [] (fun n h => rfl) ?_
    exact f_X12_round_L33_run hd h
def f_X12_hasRoom (n : Nat) (a1 : Int32) (a2 : Int32) (s : hq_S) : Option (Int32 × hq_S) := (hq_ld s 198 23 (0 : Int32)).bind fun x1 => if ((x1 >>> (a1 &&& 31)) &&& (1 : Int32)) = (1 : Int32) then some ((0 : Int32), s) else (hq_ld s 180 40 a1).bind fun x3 => if x3 = a2 then (hq_ld s 219 20 a1).bind fun x12 => if x12 < (1 : Int32) then some ((1 : Int32), s) else some ((0 : Int32), s) else (hq_ld s 181 40 a1).bind fun x5 => if x5 = a2 then (hq_ld s 219 20 a1).bind fun x7 => (hq_ld s 182 40 a1).bind fun x8 => (if x8 = (1 : Int32) then some (0 : Int32) else some (-1 : Int32)).bind fun z9 => if z9 < x7 then some ((1 : Int32), s) else some ((0 : Int32), s) else some ((0 : Int32), s)
theorem f_X12_hasRoom_run {xs : List Int32} {n d g : Nat} {a1 : Int32} {a2 : Int32} {s : hq_S} {y : (Int32 × hq_S)} (hd : 0 ≤ d) (h : f_X12_hasRoom n a1 a2 s = some y) : hq_R (mm_O xs) d mc_X12_hasRoom 0 [some (.ref 174), some (.int a1), some (.int a2)] [] s g (some (.int y.1)) y.2 := by
  unfold f_X12_hasRoom at h
  refine hq_p 1 1 [some (.ref 174), some (.int a1), some (.int a2)] [.ref 174] (fun n h => rfl) ?_
  refine hq_gf (x := .ref 198) rfl rfl rfl rfl rfl ?_
  refine hq_p 1 5 [some (.ref 174), some (.int a1), some (.int a2)] [.int (0 : Int32), .ref 198] (fun n h => rfl) ?_
  obtain ⟨x1, hx1, h⟩ := hq_bind h
  refine hq_iaload rfl rfl List.length_replicate hx1 ?_
  refine hq_p 5 11 [some (.ref 174), some (.int a1), some (.int a2)] [.int (1 : Int32), .int ((x1 >>> (a1 &&& 31)) &&& (1 : Int32))] (fun n h => rfl) ?_
  by_cases c2 : ((x1 >>> (a1 &&& 31)) &&& (1 : Int32)) = (1 : Int32)
  · rw [if_pos c2] at h
    refine hq_icF rfl (hq_c_ne_F c2) ?_
    refine hq_p 1 15 [some (.ref 174), some (.int a1), some (.int a2)] [.int (0 : Int32)] (fun n h => rfl) ?_
    have h := Option.some.inj h
    subst h
    exact ⟨1, rfl⟩
  · rw [if_neg c2] at h
    refine hq_icT rfl (hq_c_ne_T c2) ?_
    refine hq_p 1 17 [some (.ref 174), some (.int a1), some (.int a2)] [.ref 174] (fun n h => rfl) ?_
    refine hq_gf (x := .ref 180) rfl rfl rfl rfl rfl ?_
    refine hq_p 1 21 [some (.ref 174), some (.int a1), some (.int a2)] [.int a1, .ref 180] (fun n h => rfl) ?_
    obtain ⟨x3, hx3, h⟩ := hq_bind h
    refine hq_iaload rfl rfl List.length_replicate hx3 ?_
    refine hq_p 1 23 [some (.ref 174), some (.int a1), some (.int a2)] [.int a2, .int x3] (fun n h => rfl) ?_
    by_cases c4 : x3 = a2
    · rw [if_pos c4] at h
      refine hq_icF rfl (hq_c_ne_F c4) ?_
      refine hq_p 1 27 [some (.ref 174), some (.int a1), some (.int a2)] [.ref 174] (fun n h => rfl) ?_
      refine hq_gf (x := .ref 219) rfl rfl rfl rfl rfl ?_
      refine hq_p 1 31 [some (.ref 174), some (.int a1), some (.int a2)] [.int a1, .ref 219] (fun n h => rfl) ?_
      obtain ⟨x12, hx12, h⟩ := hq_bind h
      refine hq_iaload rfl rfl List.length_replicate hx12 ?_
      refine hq_p 1 33 [some (.ref 174), some (.int a1), some (.int a2)] [.int (1 : Int32), .int x12] (fun n h => rfl) ?_
      by_cases c13 : x12 < (1 : Int32)
      · rw [if_pos c13] at h
        refine hq_icF rfl (hq_c_ge_F c13) ?_
        refine hq_p 2 41 [some (.ref 174), some (.int a1), some (.int a2)] [.int (1 : Int32)] (fun n h => rfl) ?_
        have h := Option.some.inj h
        subst h
        exact ⟨1, rfl⟩
      · rw [if_neg c13] at h
        refine hq_icT rfl (hq_c_ge_T c13) ?_
        refine hq_p 1 41 [some (.ref 174), some (.int a1), some (.int a2)] [.int (0 : Int32)] (fun n h => rfl) ?_
        have h := Option.some.inj h
        subst h
        exact ⟨1, rfl⟩
    · rw [if_neg c4] at h
      refine hq_icT rfl (hq_c_ne_T c4) ?_
      refine hq_p 1 43 [some (.ref 174), some (.int a1), some (.int a2)] [.ref 174] (fun n h => rfl) ?_
      refine hq_gf (x := .ref 181) rfl rfl rfl rfl rfl ?_
      refine hq_p 1 47 [some (.ref 174), some (.int a1), some (.int a2)] [.int a1, .ref 181] (fun n h => rfl) ?_
      obtain ⟨x5, hx5, h⟩ := hq_bind h
      refine hq_iaload rfl rfl List.length_replicate hx5 ?_
      refine hq_p 1 49 [some (.ref 174), some (.int a1), some (.int a2)] [.int a2, .int x5] (fun n h => rfl) ?_
      by_cases c6 : x5 = a2
      · rw [if_pos c6] at h
        refine hq_icF rfl (hq_c_ne_F c6) ?_
        refine hq_p 1 53 [some (.ref 174), some (.int a1), some (.int a2)] [.ref 174] (fun n h => rfl) ?_
        refine hq_gf (x := .ref 219) rfl rfl rfl rfl rfl ?_
        refine hq_p 1 57 [some (.ref 174), some (.int a1), some (.int a2)] [.int a1, .ref 219] (fun n h => rfl) ?_
        obtain ⟨x7, hx7, h⟩ := hq_bind h
        refine hq_iaload rfl rfl List.length_replicate hx7 ?_
        refine hq_p 1 59 [some (.ref 174), some (.int a1), some (.int a2)] [.ref 174, .int x7] (fun n h => rfl) ?_
        refine hq_gf (x := .ref 182) rfl rfl rfl rfl rfl ?_
        refine hq_p 1 63 [some (.ref 174), some (.int a1), some (.int a2)] [.int a1, .ref 182, .int x7] (fun n h => rfl) ?_
        obtain ⟨x8, hx8, h⟩ := hq_bind h
        refine hq_iaload rfl rfl List.length_replicate hx8 ?_
        refine hq_p 1 65 [some (.ref 174), some (.int a1), some (.int a2)] [.int (1 : Int32), .int x8, .int x7] (fun n h => rfl) ?_
        obtain ⟨z9, hz9, h⟩ := hq_bind h
        suffices hT : hq_R (mm_O xs) d mc_X12_hasRoom 73 [some (.ref 174), some (.int a1), some (.int a2)] [.int z9, .int x7] s g (some (.int y.1)) y.2 from by
          clear h
          have h := hz9
          by_cases c10 : x8 = (1 : Int32)
          · rw [if_pos c10] at h
            refine hq_icF rfl (hq_c_ne_F c10) ?_
            refine hq_p 2 73 [some (.ref 174), some (.int a1), some (.int a2)] [.int (0 : Int32), .int x7] (fun n h => rfl) ?_
            cases h
            exact hT
          · rw [if_neg c10] at h
            refine hq_icT rfl (hq_c_ne_T c10) ?_
            refine hq_icn (-1 : Int32) rfl (by decide) ?_
            cases h
            exact hT
        by_cases c11 : z9 < x7
        · rw [if_pos c11] at h
          refine hq_icF rfl (hq_c_le_F c11) ?_
          refine hq_p 2 81 [some (.ref 174), some (.int a1), some (.int a2)] [.int (1 : Int32)] (fun n h => rfl) ?_
          have h := Option.some.inj h
          subst h
          exact ⟨1, rfl⟩
        · rw [if_neg c11] at h
          refine hq_icT rfl (hq_c_le_T c11) ?_
          refine hq_p 1 81 [some (.ref 174), some (.int a1), some (.int a2)] [.int (0 : Int32)] (fun n h => rfl) ?_
          have h := Option.some.inj h
          subst h
          exact ⟨1, rfl⟩
      · rw [if_neg c6] at h
        refine hq_icT rfl (hq_c_ne_T c6) ?_
        refine hq_p 1 81 [some (.ref 174), some (.int a1), some (.int a2)] [.int (0 : Int32)] (fun n h => rfl) ?_
        have h := Option.some.inj h
        subst h
        exact ⟨1, rfl⟩
def f_X12_findsOne_J161 (n : Nat) (a1 : Int32) (a2 : Int32) (a3 : Int32) (a4 : Int32) (s : hq_S) : Option (Int32 × hq_S) := if ((a3 >>> (a2 &&& 31)) &&& (1 : Int32)) = (1 : Int32) then some ((1 : Int32), s) else some ((0 : Int32), s)
theorem f_X12_findsOne_J161_run {xs : List Int32} {n d g : Nat} {a1 : Int32} {a2 : Int32} {a3 : Int32} {a4 : Int32} {o5 : Option Value} {o6 : Option Value} {o7 : Option Value} {o8 : Option Value} {s : hq_S} {y : (Int32 × hq_S)} (hd : 1 ≤ d) (h : f_X12_findsOne_J161 n a1 a2 a3 a4 s = some y) : hq_R (mm_O xs) d mc_X12_findsOne 161 [some (.ref 174), some (.int a1), some (.int a2), some (.int a3), some (.int a4), o5, o6, o7, o8] [] s g (some (.int y.1)) y.2 := by
  unfold f_X12_findsOne_J161 at h
  refine hq_p 6 167 [some (.ref 174), some (.int a1), some (.int a2), some (.int a3), some (.int a4), o5, o6, o7, o8] [.int (1 : Int32), .int ((a3 >>> (a2 &&& 31)) &&& (1 : Int32))] (fun n h => rfl) ?_
  by_cases c2 : ((a3 >>> (a2 &&& 31)) &&& (1 : Int32)) = (1 : Int32)
  · rw [if_pos c2] at h
    refine hq_icF rfl (hq_c_ne_F c2) ?_
    refine hq_p 2 175 [some (.ref 174), some (.int a1), some (.int a2), some (.int a3), some (.int a4), o5, o6, o7, o8] [.int (1 : Int32)] (fun n h => rfl) ?_
    have h := Option.some.inj h
    subst h
    exact ⟨1, rfl⟩
  · rw [if_neg c2] at h
    refine hq_icT rfl (hq_c_ne_T c2) ?_
    refine hq_p 1 175 [some (.ref 174), some (.int a1), some (.int a2), some (.int a3), some (.int a4), o5, o6, o7, o8] [.int (0 : Int32)] (fun n h => rfl) ?_
    have h := Option.some.inj h
    subst h
    exact ⟨1, rfl⟩
def f_X12_findsOne_L40_B (n : Nat) (q7 : Int32 → Int32 → Int32 → Int32 → hq_S → Option (Int32 × hq_S)) (q26 : Int32 → Int32 → Int32 → Int32 → Int32 → hq_S → Option (Int32 × hq_S)) (q40 : Int32 → Int32 → Int32 → Int32 → Int32 → Int32 → hq_S → Option (Int32 × hq_S)) (a1 : Int32) (a2 : Int32) (a3 : Int32) (a4 : Int32) (a5 : Int32) (a6 : Int32) (s : hq_S) : Option (Int32 × hq_S) := if a6 < (2 : Int32) then (if a6 = 0 then (hq_ld s 180 40 a5).bind fun x10 => some x10 else (hq_ld s 181 40 a5).bind fun x9 => some x9).bind fun z7 => (if a6 = 0 then (hq_ld s 181 40 a5).bind fun x14 => some x14 else (hq_ld s 180 40 a5).bind fun x13 => some x13).bind fun z11 => (if ((a3 >>> (z7 &&& 31)) &&& (1 : Int32)) = 0 then some (a3, a4, s) else if ((a3 >>> (z11 &&& 31)) &&& (1 : Int32)) = (1 : Int32) then some (a3, a4, s) else (f_X12_hasRoom n a5 z7 s).bind fun y18 => if y18.1 = 0 then some (a3, a4, y18.2) else (hq_st y18.2 220 10 z11 a5).bind fun s20 => some ((a3 ||| ((1 : Int32) <<< (z11 &&& 31))), (1 : Int32), s20)).bind fun z15 => q40 a1 a2 z15.1 z15.2.1 a5 (a6 + (1 : Int32)) z15.2.2 else q26 a1 a2 a3 a4 (a5 + (1 : Int32)) s
def f_X12_findsOne_L40 (n : Nat) (q7 : Int32 → Int32 → Int32 → Int32 → hq_S → Option (Int32 × hq_S)) (q26 : Int32 → Int32 → Int32 → Int32 → Int32 → hq_S → Option (Int32 × hq_S)) (m : Nat) : Int32 → Int32 → Int32 → Int32 → Int32 → Int32 → hq_S → Option (Int32 × hq_S) := Nat.rec (fun _ _ _ _ _ _ _ => none) (fun _ q => f_X12_findsOne_L40_B n q7 q26 q) m
theorem f_X12_findsOne_L40_Brun {xs : List Int32} {n d g : Nat} {a1 : Int32} {a2 : Int32} {a3 : Int32} {a4 : Int32} {a5 : Int32} {a6 : Int32} {o7 : Option Value} {o8 : Option Value} {q7 : Int32 → Int32 → Int32 → Int32 → hq_S → Option (Int32 × hq_S)} {q26 : Int32 → Int32 → Int32 → Int32 → Int32 → hq_S → Option (Int32 × hq_S)} {q40 : Int32 → Int32 → Int32 → Int32 → Int32 → Int32 → hq_S → Option (Int32 × hq_S)} {s : hq_S} {y : (Int32 × hq_S)} (hd : 1 ≤ d) (e7 : ∀ (a1 : Int32) (a2 : Int32) (a3 : Int32) (a4 : Int32) (o5 : Option Value) (o6 : Option Value) (o7 : Option Value) (o8 : Option Value) (s : hq_S), q7 a1 a2 a3 a4 s = some y → hq_R (mm_O xs) d mc_X12_findsOne 7 [some (.ref 174), some (.int a1), some (.int a2), some (.int a3), some (.int a4), o5, o6, o7, o8] [] s g (some (.int y.1)) y.2) (e26 : ∀ (a1 : Int32) (a2 : Int32) (a3 : Int32) (a4 : Int32) (a5 : Int32) (o6 : Option Value) (o7 : Option Value) (o8 : Option Value) (s : hq_S), q26 a1 a2 a3 a4 a5 s = some y → hq_R (mm_O xs) d mc_X12_findsOne 26 [some (.ref 174), some (.int a1), some (.int a2), some (.int a3), some (.int a4), some (.int a5), o6, o7, o8] [] s g (some (.int y.1)) y.2) (e40 : ∀ (a1 : Int32) (a2 : Int32) (a3 : Int32) (a4 : Int32) (a5 : Int32) (a6 : Int32) (o7 : Option Value) (o8 : Option Value) (s : hq_S), q40 a1 a2 a3 a4 a5 a6 s = some y → hq_R (mm_O xs) d mc_X12_findsOne 40 [some (.ref 174), some (.int a1), some (.int a2), some (.int a3), some (.int a4), some (.int a5), some (.int a6), o7, o8] [] s g (some (.int y.1)) y.2) (h : f_X12_findsOne_L40_B n q7 q26 q40 a1 a2 a3 a4 a5 a6 s = some y) : hq_R (mm_O xs) d mc_X12_findsOne 40 [some (.ref 174), some (.int a1), some (.int a2), some (.int a3), some (.int a4), some (.int a5), some (.int a6), o7, o8] [] s g (some (.int y.1)) y.2 := by
  unfold f_X12_findsOne_L40_B at h
  refine hq_p 2 43 [some (.ref 174), some (.int a1), some (.int a2), some (.int a3), some (.int a4), some (.int a5), some (.int a6), o7, o8] [.int (2 : Int32), .int a6] (fun n h => rfl) ?_
  by_cases c6 : a6 < (2 : Int32)
  · rw [if_pos c6] at h
    refine hq_icF rfl (hq_c_ge_F c6) ?_
    refine hq_p 1 48 [some (.ref 174), some (.int a1), some (.int a2), some (.int a3), some (.int a4), some (.int a5), some (.int a6), o7, o8] [.int a6] (fun n h => rfl) ?_
    obtain ⟨z7, hz7, h⟩ := hq_bind h
    suffices hT : hq_R (mm_O xs) d mc_X12_findsOne 68 [some (.ref 174), some (.int a1), some (.int a2), some (.int a3), some (.int a4), some (.int a5), some (.int a6), o7, o8] [.int z7] s g (some (.int y.1)) y.2 from by
      clear h
      have h := hz7
      by_cases c8 : a6 = 0
      · rw [if_pos c8] at h
        refine hq_izF rfl (hq_c_ne_F c8) ?_
        refine hq_p 1 52 [some (.ref 174), some (.int a1), some (.int a2), some (.int a3), some (.int a4), some (.int a5), some (.int a6), o7, o8] [.ref 174] (fun n h => rfl) ?_
        refine hq_gf (x := .ref 180) rfl rfl rfl rfl rfl ?_
        refine hq_p 1 57 [some (.ref 174), some (.int a1), some (.int a2), some (.int a3), some (.int a4), some (.int a5), some (.int a6), o7, o8] [.int a5, .ref 180] (fun n h => rfl) ?_
        obtain ⟨x10, hx10, h⟩ := hq_bind h
        refine hq_iaload rfl rfl List.length_replicate hx10 ?_
        refine hq_p 1 68 [some (.ref 174), some (.int a1), some (.int a2), some (.int a3), some (.int a4), some (.int a5), some (.int a6), o7, o8] [.int x10] (fun n h => rfl) ?_
        cases h
        exact hT
      · rw [if_neg c8] at h
        refine hq_izT rfl (hq_c_ne_T c8) ?_
        refine hq_p 1 62 [some (.ref 174), some (.int a1), some (.int a2), some (.int a3), some (.int a4), some (.int a5), some (.int a6), o7, o8] [.ref 174] (fun n h => rfl) ?_
        refine hq_gf (x := .ref 181) rfl rfl rfl rfl rfl ?_
        refine hq_p 1 67 [some (.ref 174), some (.int a1), some (.int a2), some (.int a3), some (.int a4), some (.int a5), some (.int a6), o7, o8] [.int a5, .ref 181] (fun n h => rfl) ?_
        obtain ⟨x9, hx9, h⟩ := hq_bind h
        refine hq_iaload rfl rfl List.length_replicate hx9 ?_
        cases h
        exact hT
    refine hq_p 2 72 [some (.ref 174), some (.int a1), some (.int a2), some (.int a3), some (.int a4), some (.int a5), some (.int a6), some (.int z7), o8] [.int a6] (fun n h => rfl) ?_
    obtain ⟨z11, hz11, h⟩ := hq_bind h
    suffices hT : hq_R (mm_O xs) d mc_X12_findsOne 92 [some (.ref 174), some (.int a1), some (.int a2), some (.int a3), some (.int a4), some (.int a5), some (.int a6), some (.int z7), o8] [.int z11] s g (some (.int y.1)) y.2 from by
      clear h
      have h := hz11
      by_cases c12 : a6 = 0
      · rw [if_pos c12] at h
        refine hq_izF rfl (hq_c_ne_F c12) ?_
        refine hq_p 1 76 [some (.ref 174), some (.int a1), some (.int a2), some (.int a3), some (.int a4), some (.int a5), some (.int a6), some (.int z7), o8] [.ref 174] (fun n h => rfl) ?_
        refine hq_gf (x := .ref 181) rfl rfl rfl rfl rfl ?_
        refine hq_p 1 81 [some (.ref 174), some (.int a1), some (.int a2), some (.int a3), some (.int a4), some (.int a5), some (.int a6), some (.int z7), o8] [.int a5, .ref 181] (fun n h => rfl) ?_
        obtain ⟨x14, hx14, h⟩ := hq_bind h
        refine hq_iaload rfl rfl List.length_replicate hx14 ?_
        refine hq_p 1 92 [some (.ref 174), some (.int a1), some (.int a2), some (.int a3), some (.int a4), some (.int a5), some (.int a6), some (.int z7), o8] [.int x14] (fun n h => rfl) ?_
        cases h
        exact hT
      · rw [if_neg c12] at h
        refine hq_izT rfl (hq_c_ne_T c12) ?_
        refine hq_p 1 86 [some (.ref 174), some (.int a1), some (.int a2), some (.int a3), some (.int a4), some (.int a5), some (.int a6), some (.int z7), o8] [.ref 174] (fun n h => rfl) ?_
        refine hq_gf (x := .ref 180) rfl rfl rfl rfl rfl ?_
        refine hq_p 1 91 [some (.ref 174), some (.int a1), some (.int a2), some (.int a3), some (.int a4), some (.int a5), some (.int a6), some (.int z7), o8] [.int a5, .ref 180] (fun n h => rfl) ?_
        obtain ⟨x13, hx13, h⟩ := hq_bind h
        refine hq_iaload rfl rfl List.length_replicate hx13 ?_
        cases h
        exact hT
    refine hq_p 6 100 [some (.ref 174), some (.int a1), some (.int a2), some (.int a3), some (.int a4), some (.int a5), some (.int a6), some (.int z7), some (.int z11)] [.int ((a3 >>> (z7 &&& 31)) &&& (1 : Int32))] (fun n h => rfl) ?_
    obtain ⟨z15, hz15, h⟩ := hq_bind h
    suffices hT : hq_R (mm_O xs) d mc_X12_findsOne 146 [some (.ref 174), some (.int a1), some (.int a2), some (.int z15.1), some (.int z15.2.1), some (.int a5), some (.int a6), some (.int z7), some (.int z11)] [] z15.2.2 g (some (.int y.1)) y.2 from by
      clear h
      have h := hz15
      by_cases c16 : ((a3 >>> (z7 &&& 31)) &&& (1 : Int32)) = 0
      · rw [if_pos c16] at h
        refine hq_izT rfl (hq_c_eq_T c16) ?_
        cases h
        exact hT
      · rw [if_neg c16] at h
        refine hq_izF rfl (hq_c_eq_F c16) ?_
        refine hq_p 6 110 [some (.ref 174), some (.int a1), some (.int a2), some (.int a3), some (.int a4), some (.int a5), some (.int a6), some (.int z7), some (.int z11)] [.int (1 : Int32), .int ((a3 >>> (z11 &&& 31)) &&& (1 : Int32))] (fun n h => rfl) ?_
        by_cases c17 : ((a3 >>> (z11 &&& 31)) &&& (1 : Int32)) = (1 : Int32)
        · rw [if_pos c17] at h
          refine hq_icT rfl (hq_c_eq_T c17) ?_
          cases h
          exact hT
        · rw [if_neg c17] at h
          refine hq_icF rfl (hq_c_eq_F c17) ?_
          refine hq_p 3 118 [some (.ref 174), some (.int a1), some (.int a2), some (.int a3), some (.int a4), some (.int a5), some (.int a6), some (.int z7), some (.int z11)] [.int z7, .int a5, .ref 174] (fun n h => rfl) ?_
          obtain ⟨y18, hy18, h⟩ := hq_bind h
          refine hq_inv rfl rfl (Nat.le_trans (by decide) hd) rfl rfl (hq_rcv rfl rfl) (f_X12_hasRoom_run (Nat.le_sub_of_add_le (Nat.le_trans (by decide) hd)) hy18) rfl ?_
          by_cases c19 : y18.1 = 0
          · rw [if_pos c19] at h
            refine hq_izF rfl (hq_c_ne_F c19) ?_
            refine hq_p 1 146 [some (.ref 174), some (.int a1), some (.int a2), some (.int a3), some (.int a4), some (.int a5), some (.int a6), some (.int z7), some (.int z11)] [] (fun n h => rfl) ?_
            cases h
            exact hT
          · rw [if_neg c19] at h
            refine hq_izT rfl (hq_c_ne_T c19) ?_
            refine hq_p 7 135 [some (.ref 174), some (.int a1), some (.int a2), some (.int (a3 ||| ((1 : Int32) <<< (z11 &&& 31)))), some (.int a4), some (.int a5), some (.int a6), some (.int z7), some (.int z11)] [.ref 174] (fun n h => rfl) ?_
            refine hq_gf (x := .ref 220) rfl rfl rfl rfl rfl ?_
            refine hq_p 2 142 [some (.ref 174), some (.int a1), some (.int a2), some (.int (a3 ||| ((1 : Int32) <<< (z11 &&& 31)))), some (.int a4), some (.int a5), some (.int a6), some (.int z7), some (.int z11)] [.int a5, .int z11, .ref 220] (fun n h => rfl) ?_
            obtain ⟨s20, hs20, h⟩ := hq_bind h
            refine hq_iastore rfl rfl List.length_replicate hs20 ?_
            refine hq_p 2 146 [some (.ref 174), some (.int a1), some (.int a2), some (.int (a3 ||| ((1 : Int32) <<< (z11 &&& 31)))), some (.int (1 : Int32)), some (.int a5), some (.int a6), some (.int z7), some (.int z11)] [] (fun n h => rfl) ?_
            cases h
            exact hT
    refine hq_p 2 40 [some (.ref 174), some (.int a1), some (.int a2), some (.int z15.1), some (.int z15.2.1), some (.int a5), some (.int (a6 + (1 : Int32))), some (.int z7), some (.int z11)] [] (fun n h => rfl) ?_
    exact e40 a1 a2 z15.1 z15.2.1 a5 (a6 + (1 : Int32)) _ _ z15.2.2 h
  · rw [if_neg c6] at h
    refine hq_icT rfl (hq_c_ge_T c6) ?_
    refine hq_p 2 26 [some (.ref 174), some (.int a1), some (.int a2), some (.int a3), some (.int a4), some (.int (a5 + (1 : Int32))), some (.int a6), o7, o8] [] (fun n h => rfl) ?_
    exact e26 a1 a2 a3 a4 (a5 + (1 : Int32)) _ _ _ s h
theorem f_X12_findsOne_L40_run {xs : List Int32} {n m d g : Nat} {a1 : Int32} {a2 : Int32} {a3 : Int32} {a4 : Int32} {a5 : Int32} {a6 : Int32} {o7 : Option Value} {o8 : Option Value} {q7 : Int32 → Int32 → Int32 → Int32 → hq_S → Option (Int32 × hq_S)} {q26 : Int32 → Int32 → Int32 → Int32 → Int32 → hq_S → Option (Int32 × hq_S)} {s : hq_S} {y : (Int32 × hq_S)} (hd : 1 ≤ d) (e7 : ∀ (a1 : Int32) (a2 : Int32) (a3 : Int32) (a4 : Int32) (o5 : Option Value) (o6 : Option Value) (o7 : Option Value) (o8 : Option Value) (s : hq_S), q7 a1 a2 a3 a4 s = some y → hq_R (mm_O xs) d mc_X12_findsOne 7 [some (.ref 174), some (.int a1), some (.int a2), some (.int a3), some (.int a4), o5, o6, o7, o8] [] s g (some (.int y.1)) y.2) (e26 : ∀ (a1 : Int32) (a2 : Int32) (a3 : Int32) (a4 : Int32) (a5 : Int32) (o6 : Option Value) (o7 : Option Value) (o8 : Option Value) (s : hq_S), q26 a1 a2 a3 a4 a5 s = some y → hq_R (mm_O xs) d mc_X12_findsOne 26 [some (.ref 174), some (.int a1), some (.int a2), some (.int a3), some (.int a4), some (.int a5), o6, o7, o8] [] s g (some (.int y.1)) y.2) (h : f_X12_findsOne_L40 n q7 q26 m a1 a2 a3 a4 a5 a6 s = some y) : hq_R (mm_O xs) d mc_X12_findsOne 40 [some (.ref 174), some (.int a1), some (.int a2), some (.int a3), some (.int a4), some (.int a5), some (.int a6), o7, o8] [] s g (some (.int y.1)) y.2 := by
  induction m generalizing a1 a2 a3 a4 a5 a6 o7 o8 s with
  | zero => cases h
  | succ m ih => exact f_X12_findsOne_L40_Brun (n := n) hd e7 e26 (fun a1 a2 a3 a4 a5 a6 o7 o8 s h => ih h) h
def f_X12_findsOne_L26_B (n : Nat) (q7 : Int32 → Int32 → Int32 → Int32 → hq_S → Option (Int32 × hq_S)) (q26 : Int32 → Int32 → Int32 → Int32 → Int32 → hq_S → Option (Int32 × hq_S)) (a1 : Int32) (a2 : Int32) (a3 : Int32) (a4 : Int32) (a5 : Int32) (s : hq_S) : Option (Int32 × hq_S) := (hq_ld s 176 14 (1 : Int32)).bind fun x4 => if a5 < x4 then f_X12_findsOne_L40 n q7 q26 n a1 a2 a3 a4 a5 (0 : Int32) s else q7 a1 a2 a3 a4 s
def f_X12_findsOne_L26 (n : Nat) (q7 : Int32 → Int32 → Int32 → Int32 → hq_S → Option (Int32 × hq_S)) (m : Nat) : Int32 → Int32 → Int32 → Int32 → Int32 → hq_S → Option (Int32 × hq_S) := Nat.rec (fun _ _ _ _ _ _ => none) (fun _ q => f_X12_findsOne_L26_B n q7 q) m
theorem f_X12_findsOne_L26_Brun {xs : List Int32} {n d g : Nat} {a1 : Int32} {a2 : Int32} {a3 : Int32} {a4 : Int32} {a5 : Int32} {o6 : Option Value} {o7 : Option Value} {o8 : Option Value} {q7 : Int32 → Int32 → Int32 → Int32 → hq_S → Option (Int32 × hq_S)} {q26 : Int32 → Int32 → Int32 → Int32 → Int32 → hq_S → Option (Int32 × hq_S)} {s : hq_S} {y : (Int32 × hq_S)} (hd : 1 ≤ d) (e7 : ∀ (a1 : Int32) (a2 : Int32) (a3 : Int32) (a4 : Int32) (o5 : Option Value) (o6 : Option Value) (o7 : Option Value) (o8 : Option Value) (s : hq_S), q7 a1 a2 a3 a4 s = some y → hq_R (mm_O xs) d mc_X12_findsOne 7 [some (.ref 174), some (.int a1), some (.int a2), some (.int a3), some (.int a4), o5, o6, o7, o8] [] s g (some (.int y.1)) y.2) (e26 : ∀ (a1 : Int32) (a2 : Int32) (a3 : Int32) (a4 : Int32) (a5 : Int32) (o6 : Option Value) (o7 : Option Value) (o8 : Option Value) (s : hq_S), q26 a1 a2 a3 a4 a5 s = some y → hq_R (mm_O xs) d mc_X12_findsOne 26 [some (.ref 174), some (.int a1), some (.int a2), some (.int a3), some (.int a4), some (.int a5), o6, o7, o8] [] s g (some (.int y.1)) y.2) (h : f_X12_findsOne_L26_B n q7 q26 a1 a2 a3 a4 a5 s = some y) : hq_R (mm_O xs) d mc_X12_findsOne 26 [some (.ref 174), some (.int a1), some (.int a2), some (.int a3), some (.int a4), some (.int a5), o6, o7, o8] [] s g (some (.int y.1)) y.2 := by
  unfold f_X12_findsOne_L26_B at h
  refine hq_p 2 29 [some (.ref 174), some (.int a1), some (.int a2), some (.int a3), some (.int a4), some (.int a5), o6, o7, o8] [.ref 174, .int a5] (fun n h => rfl) ?_
  refine hq_gf (x := .ref 176) rfl rfl rfl rfl rfl ?_
  refine hq_p 1 33 [some (.ref 174), some (.int a1), some (.int a2), some (.int a3), some (.int a4), some (.int a5), o6, o7, o8] [.int (1 : Int32), .ref 176, .int a5] (fun n h => rfl) ?_
  obtain ⟨x4, hx4, h⟩ := hq_bind h
  refine hq_iaload rfl rfl rfl hx4 ?_
  by_cases c5 : a5 < x4
  · rw [if_pos c5] at h
    refine hq_icF rfl (hq_c_ge_F c5) ?_
    refine hq_p 2 40 [some (.ref 174), some (.int a1), some (.int a2), some (.int a3), some (.int a4), some (.int a5), some (.int (0 : Int32)), o7, o8] [] (fun n h => rfl) ?_
    exact f_X12_findsOne_L40_run hd e7 e26 h
  · rw [if_neg c5] at h
    refine hq_icT rfl (hq_c_ge_T c5) ?_
    refine hq_p 1 7 [some (.ref 174), some (.int a1), some (.int a2), some (.int a3), some (.int a4), some (.int a5), o6, o7, o8] [] (fun n h => rfl) ?_
    exact e7 a1 a2 a3 a4 _ _ _ _ s h
theorem f_X12_findsOne_L26_run {xs : List Int32} {n m d g : Nat} {a1 : Int32} {a2 : Int32} {a3 : Int32} {a4 : Int32} {a5 : Int32} {o6 : Option Value} {o7 : Option Value} {o8 : Option Value} {q7 : Int32 → Int32 → Int32 → Int32 → hq_S → Option (Int32 × hq_S)} {s : hq_S} {y : (Int32 × hq_S)} (hd : 1 ≤ d) (e7 : ∀ (a1 : Int32) (a2 : Int32) (a3 : Int32) (a4 : Int32) (o5 : Option Value) (o6 : Option Value) (o7 : Option Value) (o8 : Option Value) (s : hq_S), q7 a1 a2 a3 a4 s = some y → hq_R (mm_O xs) d mc_X12_findsOne 7 [some (.ref 174), some (.int a1), some (.int a2), some (.int a3), some (.int a4), o5, o6, o7, o8] [] s g (some (.int y.1)) y.2) (h : f_X12_findsOne_L26 n q7 m a1 a2 a3 a4 a5 s = some y) : hq_R (mm_O xs) d mc_X12_findsOne 26 [some (.ref 174), some (.int a1), some (.int a2), some (.int a3), some (.int a4), some (.int a5), o6, o7, o8] [] s g (some (.int y.1)) y.2 := by
  induction m generalizing a1 a2 a3 a4 a5 o6 o7 o8 s with
  | zero => cases h
  | succ m ih => exact f_X12_findsOne_L26_Brun (n := n) hd e7 (fun a1 a2 a3 a4 a5 o6 o7 o8 s h => ih h) h
def f_X12_findsOne_L7_B (n : Nat) (q7 : Int32 → Int32 → Int32 → Int32 → hq_S → Option (Int32 × hq_S)) (a1 : Int32) (a2 : Int32) (a3 : Int32) (a4 : Int32) (s : hq_S) : Option (Int32 × hq_S) := if a4 = 0 then f_X12_findsOne_J161 n a1 a2 a3 a4 s else if ((a3 >>> (a2 &&& 31)) &&& (1 : Int32)) = 0 then f_X12_findsOne_L26 n q7 n a1 a2 a3 (0 : Int32) (0 : Int32) s else f_X12_findsOne_J161 n a1 a2 a3 a4 s
def f_X12_findsOne_L7 (n : Nat) (m : Nat) : Int32 → Int32 → Int32 → Int32 → hq_S → Option (Int32 × hq_S) := Nat.rec (fun _ _ _ _ _ => none) (fun _ q => f_X12_findsOne_L7_B n q) m
theorem f_X12_findsOne_L7_Brun {xs : List Int32} {n d g : Nat} {a1 : Int32} {a2 : Int32} {a3 : Int32} {a4 : Int32} {o5 : Option Value} {o6 : Option Value} {o7 : Option Value} {o8 : Option Value} {q7 : Int32 → Int32 → Int32 → Int32 → hq_S → Option (Int32 × hq_S)} {s : hq_S} {y : (Int32 × hq_S)} (hd : 1 ≤ d) (e7 : ∀ (a1 : Int32) (a2 : Int32) (a3 : Int32) (a4 : Int32) (o5 : Option Value) (o6 : Option Value) (o7 : Option Value) (o8 : Option Value) (s : hq_S), q7 a1 a2 a3 a4 s = some y → hq_R (mm_O xs) d mc_X12_findsOne 7 [some (.ref 174), some (.int a1), some (.int a2), some (.int a3), some (.int a4), o5, o6, o7, o8] [] s g (some (.int y.1)) y.2) (h : f_X12_findsOne_L7_B n q7 a1 a2 a3 a4 s = some y) : hq_R (mm_O xs) d mc_X12_findsOne 7 [some (.ref 174), some (.int a1), some (.int a2), some (.int a3), some (.int a4), o5, o6, o7, o8] [] s g (some (.int y.1)) y.2 := by
  unfold f_X12_findsOne_L7_B at h
  refine hq_p 1 9 [some (.ref 174), some (.int a1), some (.int a2), some (.int a3), some (.int a4), o5, o6, o7, o8] [.int a4] (fun n h => rfl) ?_
  by_cases c1 : a4 = 0
  · rw [if_pos c1] at h
    refine hq_izT rfl (hq_c_eq_T c1) ?_
    exact f_X12_findsOne_J161_run hd h
  · rw [if_neg c1] at h
    refine hq_izF rfl (hq_c_eq_F c1) ?_
    refine hq_p 5 17 [some (.ref 174), some (.int a1), some (.int a2), some (.int a3), some (.int a4), o5, o6, o7, o8] [.int ((a3 >>> (a2 &&& 31)) &&& (1 : Int32))] (fun n h => rfl) ?_
    by_cases c3 : ((a3 >>> (a2 &&& 31)) &&& (1 : Int32)) = 0
    · rw [if_pos c3] at h
      refine hq_izF rfl (hq_c_ne_F c3) ?_
      refine hq_p 4 26 [some (.ref 174), some (.int a1), some (.int a2), some (.int a3), some (.int (0 : Int32)), some (.int (0 : Int32)), o6, o7, o8] [] (fun n h => rfl) ?_
      exact f_X12_findsOne_L26_run hd e7 h
    · rw [if_neg c3] at h
      refine hq_izT rfl (hq_c_ne_T c3) ?_
      exact f_X12_findsOne_J161_run hd h
theorem f_X12_findsOne_L7_run {xs : List Int32} {n m d g : Nat} {a1 : Int32} {a2 : Int32} {a3 : Int32} {a4 : Int32} {o5 : Option Value} {o6 : Option Value} {o7 : Option Value} {o8 : Option Value} {s : hq_S} {y : (Int32 × hq_S)} (hd : 1 ≤ d) (h : f_X12_findsOne_L7 n m a1 a2 a3 a4 s = some y) : hq_R (mm_O xs) d mc_X12_findsOne 7 [some (.ref 174), some (.int a1), some (.int a2), some (.int a3), some (.int a4), o5, o6, o7, o8] [] s g (some (.int y.1)) y.2 := by
  induction m generalizing a1 a2 a3 a4 o5 o6 o7 o8 s with
  | zero => cases h
  | succ m ih => exact f_X12_findsOne_L7_Brun (n := n) hd (fun a1 a2 a3 a4 o5 o6 o7 o8 s h => ih h) h
def f_X12_findsOne (n : Nat) (a1 : Int32) (a2 : Int32) (s : hq_S) : Option (Int32 × hq_S) := f_X12_findsOne_L7 n n a1 a2 ((1 : Int32) <<< (a1 &&& 31)) (1 : Int32) s
theorem f_X12_findsOne_run {xs : List Int32} {n d g : Nat} {a1 : Int32} {a2 : Int32} {s : hq_S} {y : (Int32 × hq_S)} (hd : 1 ≤ d) (h : f_X12_findsOne n a1 a2 s = some y) : hq_R (mm_O xs) d mc_X12_findsOne 0 [some (.ref 174), some (.int a1), some (.int a2), none, none, none, none, none, none] [] s g (some (.int y.1)) y.2 := by
  unfold f_X12_findsOne at h
  refine hq_p 6 7 [some (.ref 174), some (.int a1), some (.int a2), some (.int ((1 : Int32) <<< (a1 &&& 31))), some (.int (1 : Int32)), none, none, none, none] [] (fun n h => rfl) ?_
  exact f_X12_findsOne_L7_run hd h
def f_X12_wall_L66_B (n : Nat) (q51 : Int32 → Int32 → Int32 → hq_S → Option (Int32 × hq_S)) (q66 : Int32 → Int32 → Int32 → Int32 → hq_S → Option (Int32 × hq_S)) (a1 : Int32) (a2 : Int32) (a3 : Int32) (a4 : Int32) (s : hq_S) : Option (Int32 × hq_S) := if a4 = a1 then q51 a1 a2 a3 s else (hq_ld s 220 10 a4).bind fun x11 => (hq_ld s 181 40 x11).bind fun x12 => (if x12 = a4 then some (1 : Int32) else some (0 : Int32)).bind fun z13 => (hq_ld s 219 20 x11).bind fun x15 => (if z13 = 0 then some (-1 : Int32) else some (1 : Int32)).bind fun z16 => (hq_st s 219 20 x11 (x15 + z16)).bind fun s18 => (if z13 = 0 then (hq_ld s18 181 40 x11).bind fun x21 => some x21 else (hq_ld s18 180 40 x11).bind fun x22 => some x22).bind fun z19 => q66 a1 a2 a3 z19 s18
def f_X12_wall_L66 (n : Nat) (q51 : Int32 → Int32 → Int32 → hq_S → Option (Int32 × hq_S)) (m : Nat) : Int32 → Int32 → Int32 → Int32 → hq_S → Option (Int32 × hq_S) := Nat.rec (fun _ _ _ _ _ => none) (fun _ q => f_X12_wall_L66_B n q51 q) m
theorem f_X12_wall_L66_Brun {xs : List Int32} {n d g : Nat} {a1 : Int32} {a2 : Int32} {a3 : Int32} {a4 : Int32} {o5 : Option Value} {o6 : Option Value} {q51 : Int32 → Int32 → Int32 → hq_S → Option (Int32 × hq_S)} {q66 : Int32 → Int32 → Int32 → Int32 → hq_S → Option (Int32 × hq_S)} {s : hq_S} {y : (Int32 × hq_S)} (hd : 2 ≤ d) (e51 : ∀ (a1 : Int32) (a2 : Int32) (a3 : Int32) (o4 : Option Value) (o5 : Option Value) (o6 : Option Value) (s : hq_S), q51 a1 a2 a3 s = some y → hq_R (mm_O xs) d mc_X12_wall 51 [some (.ref 174), some (.int a1), some (.int a2), some (.int a3), o4, o5, o6] [] s g (some (.int y.1)) y.2) (e66 : ∀ (a1 : Int32) (a2 : Int32) (a3 : Int32) (a4 : Int32) (o5 : Option Value) (o6 : Option Value) (s : hq_S), q66 a1 a2 a3 a4 s = some y → hq_R (mm_O xs) d mc_X12_wall 66 [some (.ref 174), some (.int a1), some (.int a2), some (.int a3), some (.int a4), o5, o6] [] s g (some (.int y.1)) y.2) (h : f_X12_wall_L66_B n q51 q66 a1 a2 a3 a4 s = some y) : hq_R (mm_O xs) d mc_X12_wall 66 [some (.ref 174), some (.int a1), some (.int a2), some (.int a3), some (.int a4), o5, o6] [] s g (some (.int y.1)) y.2 := by
  unfold f_X12_wall_L66_B at h
  refine hq_p 2 69 [some (.ref 174), some (.int a1), some (.int a2), some (.int a3), some (.int a4), o5, o6] [.int a1, .int a4] (fun n h => rfl) ?_
  by_cases c10 : a4 = a1
  · rw [if_pos c10] at h
    refine hq_icT rfl (hq_c_eq_T c10) ?_
    refine hq_p 1 51 [some (.ref 174), some (.int a1), some (.int a2), some (.int a3), some (.int a4), o5, o6] [] (fun n h => rfl) ?_
    exact e51 a1 a2 a3 _ _ _ s h
  · rw [if_neg c10] at h
    refine hq_icF rfl (hq_c_eq_F c10) ?_
    refine hq_p 1 73 [some (.ref 174), some (.int a1), some (.int a2), some (.int a3), some (.int a4), o5, o6] [.ref 174] (fun n h => rfl) ?_
    refine hq_gf (x := .ref 220) rfl rfl rfl rfl rfl ?_
    refine hq_p 1 78 [some (.ref 174), some (.int a1), some (.int a2), some (.int a3), some (.int a4), o5, o6] [.int a4, .ref 220] (fun n h => rfl) ?_
    obtain ⟨x11, hx11, h⟩ := hq_bind h
    refine hq_iaload rfl rfl List.length_replicate hx11 ?_
    refine hq_p 2 82 [some (.ref 174), some (.int a1), some (.int a2), some (.int a3), some (.int a4), some (.int x11), o6] [.ref 174] (fun n h => rfl) ?_
    refine hq_gf (x := .ref 181) rfl rfl rfl rfl rfl ?_
    refine hq_p 1 87 [some (.ref 174), some (.int a1), some (.int a2), some (.int a3), some (.int a4), some (.int x11), o6] [.int x11, .ref 181] (fun n h => rfl) ?_
    obtain ⟨x12, hx12, h⟩ := hq_bind h
    refine hq_iaload rfl rfl List.length_replicate hx12 ?_
    refine hq_p 1 90 [some (.ref 174), some (.int a1), some (.int a2), some (.int a3), some (.int a4), some (.int x11), o6] [.int a4, .int x12] (fun n h => rfl) ?_
    obtain ⟨z13, hz13, h⟩ := hq_bind h
    suffices hT : hq_R (mm_O xs) d mc_X12_wall 98 [some (.ref 174), some (.int a1), some (.int a2), some (.int a3), some (.int a4), some (.int x11), o6] [.int z13] s g (some (.int y.1)) y.2 from by
      clear h
      have h := hz13
      by_cases c14 : x12 = a4
      · rw [if_pos c14] at h
        refine hq_icF rfl (hq_c_ne_F c14) ?_
        refine hq_p 2 98 [some (.ref 174), some (.int a1), some (.int a2), some (.int a3), some (.int a4), some (.int x11), o6] [.int (1 : Int32)] (fun n h => rfl) ?_
        cases h
        exact hT
      · rw [if_neg c14] at h
        refine hq_icT rfl (hq_c_ne_T c14) ?_
        refine hq_p 1 98 [some (.ref 174), some (.int a1), some (.int a2), some (.int a3), some (.int a4), some (.int x11), o6] [.int (0 : Int32)] (fun n h => rfl) ?_
        cases h
        exact hT
    refine hq_p 2 101 [some (.ref 174), some (.int a1), some (.int a2), some (.int a3), some (.int a4), some (.int x11), some (.int z13)] [.ref 174] (fun n h => rfl) ?_
    refine hq_gf (x := .ref 219) rfl rfl rfl rfl rfl ?_
    refine hq_p 2 107 [some (.ref 174), some (.int a1), some (.int a2), some (.int a3), some (.int a4), some (.int x11), some (.int z13)] [.int x11, .ref 219, .int x11, .ref 219] (fun n h => rfl) ?_
    obtain ⟨x15, hx15, h⟩ := hq_bind h
    refine hq_iaload rfl rfl List.length_replicate hx15 ?_
    refine hq_p 1 110 [some (.ref 174), some (.int a1), some (.int a2), some (.int a3), some (.int a4), some (.int x11), some (.int z13)] [.int z13, .int x15, .int x11, .ref 219] (fun n h => rfl) ?_
    obtain ⟨z16, hz16, h⟩ := hq_bind h
    suffices hT : hq_R (mm_O xs) d mc_X12_wall 118 [some (.ref 174), some (.int a1), some (.int a2), some (.int a3), some (.int a4), some (.int x11), some (.int z13)] [.int z16, .int x15, .int x11, .ref 219] s g (some (.int y.1)) y.2 from by
      clear h
      have h := hz16
      by_cases c17 : z13 = 0
      · rw [if_pos c17] at h
        refine hq_izT rfl (hq_c_eq_T c17) ?_
        refine hq_icn (-1 : Int32) rfl (by decide) ?_
        cases h
        exact hT
      · rw [if_neg c17] at h
        refine hq_izF rfl (hq_c_eq_F c17) ?_
        refine hq_p 2 118 [some (.ref 174), some (.int a1), some (.int a2), some (.int a3), some (.int a4), some (.int x11), some (.int z13)] [.int (1 : Int32), .int x15, .int x11, .ref 219] (fun n h => rfl) ?_
        cases h
        exact hT
    refine hq_p 1 119 [some (.ref 174), some (.int a1), some (.int a2), some (.int a3), some (.int a4), some (.int x11), some (.int z13)] [.int (x15 + z16), .int x11, .ref 219] (fun n h => rfl) ?_
    obtain ⟨s18, hs18, h⟩ := hq_bind h
    refine hq_iastore rfl rfl List.length_replicate hs18 ?_
    refine hq_p 1 122 [some (.ref 174), some (.int a1), some (.int a2), some (.int a3), some (.int a4), some (.int x11), some (.int z13)] [.int z13] (fun n h => rfl) ?_
    obtain ⟨z19, hz19, h⟩ := hq_bind h
    suffices hT : hq_R (mm_O xs) d mc_X12_wall 142 [some (.ref 174), some (.int a1), some (.int a2), some (.int a3), some (.int a4), some (.int x11), some (.int z13)] [.int z19] s18 g (some (.int y.1)) y.2 from by
      clear h
      have h := hz19
      by_cases c20 : z13 = 0
      · rw [if_pos c20] at h
        refine hq_izT rfl (hq_c_eq_T c20) ?_
        refine hq_p 1 136 [some (.ref 174), some (.int a1), some (.int a2), some (.int a3), some (.int a4), some (.int x11), some (.int z13)] [.ref 174] (fun n h => rfl) ?_
        refine hq_gf (x := .ref 181) rfl rfl rfl rfl rfl ?_
        refine hq_p 1 141 [some (.ref 174), some (.int a1), some (.int a2), some (.int a3), some (.int a4), some (.int x11), some (.int z13)] [.int x11, .ref 181] (fun n h => rfl) ?_
        obtain ⟨x21, hx21, h⟩ := hq_bind h
        refine hq_iaload rfl rfl List.length_replicate hx21 ?_
        cases h
        exact hT
      · rw [if_neg c20] at h
        refine hq_izF rfl (hq_c_eq_F c20) ?_
        refine hq_p 1 126 [some (.ref 174), some (.int a1), some (.int a2), some (.int a3), some (.int a4), some (.int x11), some (.int z13)] [.ref 174] (fun n h => rfl) ?_
        refine hq_gf (x := .ref 180) rfl rfl rfl rfl rfl ?_
        refine hq_p 1 131 [some (.ref 174), some (.int a1), some (.int a2), some (.int a3), some (.int a4), some (.int x11), some (.int z13)] [.int x11, .ref 180] (fun n h => rfl) ?_
        obtain ⟨x22, hx22, h⟩ := hq_bind h
        refine hq_iaload rfl rfl List.length_replicate hx22 ?_
        refine hq_p 1 142 [some (.ref 174), some (.int a1), some (.int a2), some (.int a3), some (.int a4), some (.int x11), some (.int z13)] [.int x22] (fun n h => rfl) ?_
        cases h
        exact hT
    refine hq_p 2 66 [some (.ref 174), some (.int a1), some (.int a2), some (.int a3), some (.int z19), some (.int x11), some (.int z13)] [] (fun n h => rfl) ?_
    exact e66 a1 a2 a3 z19 _ _ s18 h
theorem f_X12_wall_L66_run {xs : List Int32} {n m d g : Nat} {a1 : Int32} {a2 : Int32} {a3 : Int32} {a4 : Int32} {o5 : Option Value} {o6 : Option Value} {q51 : Int32 → Int32 → Int32 → hq_S → Option (Int32 × hq_S)} {s : hq_S} {y : (Int32 × hq_S)} (hd : 2 ≤ d) (e51 : ∀ (a1 : Int32) (a2 : Int32) (a3 : Int32) (o4 : Option Value) (o5 : Option Value) (o6 : Option Value) (s : hq_S), q51 a1 a2 a3 s = some y → hq_R (mm_O xs) d mc_X12_wall 51 [some (.ref 174), some (.int a1), some (.int a2), some (.int a3), o4, o5, o6] [] s g (some (.int y.1)) y.2) (h : f_X12_wall_L66 n q51 m a1 a2 a3 a4 s = some y) : hq_R (mm_O xs) d mc_X12_wall 66 [some (.ref 174), some (.int a1), some (.int a2), some (.int a3), some (.int a4), o5, o6] [] s g (some (.int y.1)) y.2 := by
  induction m generalizing a1 a2 a3 a4 o5 o6 s with
  | zero => cases h
  | succ m ih => exact f_X12_wall_L66_Brun (n := n) hd e51 (fun a1 a2 a3 a4 o5 o6 s h => ih h) h
def f_X12_wall_L51_B (n : Nat) (q51 : Int32 → Int32 → Int32 → hq_S → Option (Int32 × hq_S)) (a1 : Int32) (a2 : Int32) (a3 : Int32) (s : hq_S) : Option (Int32 × hq_S) := (f_X12_findsOne n a1 a2 s).bind fun y8 => if y8.1 = 0 then some (a3, y8.2) else f_X12_wall_L66 n q51 n a1 a2 (a3 + (1 : Int32)) a2 y8.2
def f_X12_wall_L51 (n : Nat) (m : Nat) : Int32 → Int32 → Int32 → hq_S → Option (Int32 × hq_S) := Nat.rec (fun _ _ _ _ => none) (fun _ q => f_X12_wall_L51_B n q) m
theorem f_X12_wall_L51_Brun {xs : List Int32} {n d g : Nat} {a1 : Int32} {a2 : Int32} {a3 : Int32} {o4 : Option Value} {o5 : Option Value} {o6 : Option Value} {q51 : Int32 → Int32 → Int32 → hq_S → Option (Int32 × hq_S)} {s : hq_S} {y : (Int32 × hq_S)} (hd : 2 ≤ d) (e51 : ∀ (a1 : Int32) (a2 : Int32) (a3 : Int32) (o4 : Option Value) (o5 : Option Value) (o6 : Option Value) (s : hq_S), q51 a1 a2 a3 s = some y → hq_R (mm_O xs) d mc_X12_wall 51 [some (.ref 174), some (.int a1), some (.int a2), some (.int a3), o4, o5, o6] [] s g (some (.int y.1)) y.2) (h : f_X12_wall_L51_B n q51 a1 a2 a3 s = some y) : hq_R (mm_O xs) d mc_X12_wall 51 [some (.ref 174), some (.int a1), some (.int a2), some (.int a3), o4, o5, o6] [] s g (some (.int y.1)) y.2 := by
  unfold f_X12_wall_L51_B at h
  refine hq_p 3 54 [some (.ref 174), some (.int a1), some (.int a2), some (.int a3), o4, o5, o6] [.int a2, .int a1, .ref 174] (fun n h => rfl) ?_
  obtain ⟨y8, hy8, h⟩ := hq_bind h
  refine hq_inv rfl rfl (Nat.le_trans (by decide) hd) rfl rfl (hq_rcv rfl rfl) (f_X12_findsOne_run (Nat.le_sub_of_add_le (Nat.le_trans (by decide) hd)) hy8) rfl ?_
  by_cases c9 : y8.1 = 0
  · rw [if_pos c9] at h
    refine hq_izT rfl (hq_c_eq_T c9) ?_
    refine hq_p 1 151 [some (.ref 174), some (.int a1), some (.int a2), some (.int a3), o4, o5, o6] [.int a3] (fun n h => rfl) ?_
    have h := Option.some.inj h
    subst h
    exact ⟨1, rfl⟩
  · rw [if_neg c9] at h
    refine hq_izF rfl (hq_c_eq_F c9) ?_
    refine hq_p 3 66 [some (.ref 174), some (.int a1), some (.int a2), some (.int (a3 + (1 : Int32))), some (.int a2), o5, o6] [] (fun n h => rfl) ?_
    exact f_X12_wall_L66_run hd e51 h
theorem f_X12_wall_L51_run {xs : List Int32} {n m d g : Nat} {a1 : Int32} {a2 : Int32} {a3 : Int32} {o4 : Option Value} {o5 : Option Value} {o6 : Option Value} {s : hq_S} {y : (Int32 × hq_S)} (hd : 2 ≤ d) (h : f_X12_wall_L51 n m a1 a2 a3 s = some y) : hq_R (mm_O xs) d mc_X12_wall 51 [some (.ref 174), some (.int a1), some (.int a2), some (.int a3), o4, o5, o6] [] s g (some (.int y.1)) y.2 := by
  induction m generalizing a1 a2 a3 o4 o5 o6 s with
  | zero => cases h
  | succ m ih => exact f_X12_wall_L51_Brun (n := n) hd (fun a1 a2 a3 o4 o5 o6 s h => ih h) h
def f_X12_wall_L30_B (n : Nat) (q30 : Int32 → Int32 → Int32 → hq_S → Option (Int32 × hq_S)) (a1 : Int32) (a2 : Int32) (a3 : Int32) (s : hq_S) : Option (Int32 × hq_S) := if a3 < (20 : Int32) then (hq_st s 219 20 a3 (0 : Int32)).bind fun s23 => q30 a1 a2 (a3 + (1 : Int32)) s23 else f_X12_wall_L51 n n a1 a2 (0 : Int32) s
def f_X12_wall_L30 (n : Nat) (m : Nat) : Int32 → Int32 → Int32 → hq_S → Option (Int32 × hq_S) := Nat.rec (fun _ _ _ _ => none) (fun _ q => f_X12_wall_L30_B n q) m
theorem f_X12_wall_L30_Brun {xs : List Int32} {n d g : Nat} {a1 : Int32} {a2 : Int32} {a3 : Int32} {q30 : Int32 → Int32 → Int32 → hq_S → Option (Int32 × hq_S)} {s : hq_S} {y : (Int32 × hq_S)} (hd : 2 ≤ d) (e30 : ∀ (a1 : Int32) (a2 : Int32) (a3 : Int32) (s : hq_S), q30 a1 a2 a3 s = some y → hq_R (mm_O xs) d mc_X12_wall 30 [some (.ref 174), some (.int a1), some (.int a2), some (.int a3), none, none, none] [] s g (some (.int y.1)) y.2) (h : f_X12_wall_L30_B n q30 a1 a2 a3 s = some y) : hq_R (mm_O xs) d mc_X12_wall 30 [some (.ref 174), some (.int a1), some (.int a2), some (.int a3), none, none, none] [] s g (some (.int y.1)) y.2 := by
  unfold f_X12_wall_L30_B at h
  refine hq_p 1 31 [some (.ref 174), some (.int a1), some (.int a2), some (.int a3), none, none, none] [.int a3] (fun n h => rfl) ?_
  refine hq_bip (20 : Int32) rfl (by decide) ?_
  by_cases c7 : a3 < (20 : Int32)
  · rw [if_pos c7] at h
    refine hq_icF rfl (hq_c_ge_F c7) ?_
    refine hq_p 1 37 [some (.ref 174), some (.int a1), some (.int a2), some (.int a3), none, none, none] [.ref 174] (fun n h => rfl) ?_
    refine hq_gf (x := .ref 219) rfl rfl rfl rfl rfl ?_
    refine hq_p 2 42 [some (.ref 174), some (.int a1), some (.int a2), some (.int a3), none, none, none] [.int (0 : Int32), .int a3, .ref 219] (fun n h => rfl) ?_
    obtain ⟨s23, hs23, h⟩ := hq_bind h
    refine hq_iastore rfl rfl List.length_replicate hs23 ?_
    refine hq_p 2 30 [some (.ref 174), some (.int a1), some (.int a2), some (.int (a3 + (1 : Int32))), none, none, none] [] (fun n h => rfl) ?_
    exact e30 a1 a2 (a3 + (1 : Int32)) s23 h
  · rw [if_neg c7] at h
    refine hq_icT rfl (hq_c_ge_T c7) ?_
    refine hq_p 2 51 [some (.ref 174), some (.int a1), some (.int a2), some (.int (0 : Int32)), none, none, none] [] (fun n h => rfl) ?_
    exact f_X12_wall_L51_run hd h
theorem f_X12_wall_L30_run {xs : List Int32} {n m d g : Nat} {a1 : Int32} {a2 : Int32} {a3 : Int32} {s : hq_S} {y : (Int32 × hq_S)} (hd : 2 ≤ d) (h : f_X12_wall_L30 n m a1 a2 a3 s = some y) : hq_R (mm_O xs) d mc_X12_wall 30 [some (.ref 174), some (.int a1), some (.int a2), some (.int a3), none, none, none] [] s g (some (.int y.1)) y.2 := by
  induction m generalizing a1 a2 a3 s with
  | zero => cases h
  | succ m ih => exact f_X12_wall_L30_Brun (n := n) hd (fun a1 a2 a3 s h => ih h) h
def f_X12_wall (n : Nat) (a1 : Int32) (a2 : Int32) (s : hq_S) : Option (Int32 × hq_S) := (hq_pi s 174 0 0 (0 : Int32)).bind fun s1 => (f_X12_isCorner n a1 s1).bind fun y2 => if y2.1 = 0 then some ((-1 : Int32), y2.2) else (f_X12_isCorner n a2 y2.2).bind fun y4 => if y4.1 = 0 then some ((-1 : Int32), y4.2) else if a1 = a2 then some ((-1 : Int32), y4.2) else f_X12_wall_L30 n n a1 a2 (0 : Int32) y4.2
theorem f_X12_wall_run {xs : List Int32} {n d g : Nat} {a1 : Int32} {a2 : Int32} {s : hq_S} {y : (Int32 × hq_S)} (hd : 2 ≤ d) (h : f_X12_wall n a1 a2 s = some y) : hq_R (mm_O xs) d mc_X12_wall 0 [some (.ref 174), some (.int a1), some (.int a2), none, none, none, none] [] s g (some (.int y.1)) y.2 := by
  unfold f_X12_wall at h
  refine hq_p 2 2 [some (.ref 174), some (.int a1), some (.int a2), none, none, none, none] [.int (0 : Int32), .ref 174] (fun n h => rfl) ?_
  obtain ⟨s1, hs1, h⟩ := hq_bind h
  refine hq_pfi rfl rfl rfl rfl rfl hs1 ?_
  refine hq_p 2 7 [some (.ref 174), some (.int a1), some (.int a2), none, none, none, none] [.int a1, .ref 174] (fun n h => rfl) ?_
  obtain ⟨y2, hy2, h⟩ := hq_bind h
  refine hq_inv rfl rfl (Nat.le_trans (by decide) hd) rfl rfl (hq_rcv rfl rfl) (f_X12_isCorner_run (Nat.le_sub_of_add_le (Nat.le_trans (by decide) hd)) hy2) rfl ?_
  by_cases c3 : y2.1 = 0
  · rw [if_pos c3] at h
    refine hq_izT rfl (hq_c_eq_T c3) ?_
    refine hq_icn (-1 : Int32) rfl (by decide) ?_
    have h := Option.some.inj h
    subst h
    exact ⟨1, rfl⟩
  · rw [if_neg c3] at h
    refine hq_izF rfl (hq_c_eq_F c3) ?_
    refine hq_p 2 15 [some (.ref 174), some (.int a1), some (.int a2), none, none, none, none] [.int a2, .ref 174] (fun n h => rfl) ?_
    obtain ⟨y4, hy4, h⟩ := hq_bind h
    refine hq_inv rfl rfl (Nat.le_trans (by decide) hd) rfl rfl (hq_rcv rfl rfl) (f_X12_isCorner_run (Nat.le_sub_of_add_le (Nat.le_trans (by decide) hd)) hy4) rfl ?_
    by_cases c5 : y4.1 = 0
    · rw [if_pos c5] at h
      refine hq_izT rfl (hq_c_eq_T c5) ?_
      refine hq_icn (-1 : Int32) rfl (by decide) ?_
      have h := Option.some.inj h
      subst h
      exact ⟨1, rfl⟩
    · rw [if_neg c5] at h
      refine hq_izF rfl (hq_c_eq_F c5) ?_
      refine hq_p 2 23 [some (.ref 174), some (.int a1), some (.int a2), none, none, none, none] [.int a2, .int a1] (fun n h => rfl) ?_
      by_cases c6 : a1 = a2
      · rw [if_pos c6] at h
        refine hq_icF rfl (hq_c_ne_F c6) ?_
        refine hq_icn (-1 : Int32) rfl (by decide) ?_
        have h := Option.some.inj h
        subst h
        exact ⟨1, rfl⟩
      · rw [if_neg c6] at h
        refine hq_icT rfl (hq_c_ne_T c6) ?_
        refine hq_p 2 30 [some (.ref 174), some (.int a1), some (.int a2), some (.int (0 : Int32)), none, none, none] [] (fun n h => rfl) ?_
        exact f_X12_wall_L30_run hd h
def f_X12_common_L6_B (n : Nat) (q6 : Int64 → Int64 → Int64 → Int64 → hq_S → Option (Int64 × hq_S)) (j0 : Int64) (j2 : Int64) (j4 : Int64) (j6 : Int64) (s : hq_S) : Option (Int64 × hq_S) := if (lg_cmp j6 (0 : Int64)) = 0 then some (j4, s) else (hq_lrem j4 j6).bind fun x2 => q6 j0 j2 j6 x2 s
def f_X12_common_L6 (n : Nat) (m : Nat) : Int64 → Int64 → Int64 → Int64 → hq_S → Option (Int64 × hq_S) := Nat.rec (fun _ _ _ _ _ => none) (fun _ q => f_X12_common_L6_B n q) m
theorem f_X12_common_L6_Brun {xs : List Int32} {n d g : Nat} {j0 : Int64} {j2 : Int64} {j4 : Int64} {j6 : Int64} {o8 : Option Value} {q6 : Int64 → Int64 → Int64 → Int64 → hq_S → Option (Int64 × hq_S)} {s : hq_S} {y : (Int64 × hq_S)} (hd : 0 ≤ d) (e6 : ∀ (j0 : Int64) (j2 : Int64) (j4 : Int64) (j6 : Int64) (o8 : Option Value) (s : hq_S), q6 j0 j2 j4 j6 s = some y → hq_R (mm_O xs) d mc_X12_common 6 [some (.long j0), none, some (.long j2), none, some (.long j4), none, some (.long j6), none, o8, none] [] s g (some (.long y.1)) y.2) (h : f_X12_common_L6_B n q6 j0 j2 j4 j6 s = some y) : hq_R (mm_O xs) d mc_X12_common 6 [some (.long j0), none, some (.long j2), none, some (.long j4), none, some (.long j6), none, o8, none] [] s g (some (.long y.1)) y.2 := by
  unfold f_X12_common_L6_B at h
  refine hq_p 3 10 [some (.long j0), none, some (.long j2), none, some (.long j4), none, some (.long j6), none, o8, none] [.int (lg_cmp j6 (0 : Int64))] (fun n h => rfl) ?_
  by_cases c1 : (lg_cmp j6 (0 : Int64)) = 0
  · rw [if_pos c1] at h
    refine hq_izT rfl (hq_c_eq_T c1) ?_
    refine hq_p 1 33 [some (.long j0), none, some (.long j2), none, some (.long j4), none, some (.long j6), none, o8, none] [.long j4] (fun n h => rfl) ?_
    have h := Option.some.inj h
    subst h
    exact ⟨1, rfl⟩
  · rw [if_neg c1] at h
    refine hq_izF rfl (hq_c_eq_F c1) ?_
    refine hq_p 2 17 [some (.long j0), none, some (.long j2), none, some (.long j4), none, some (.long j6), none, o8, none] [.long j6, .long j4] (fun n h => rfl) ?_
    obtain ⟨x2, hx2, h⟩ := hq_bind h
    refine hq_lrem_ rfl hx2 ?_
    refine hq_p 6 6 [some (.long j0), none, some (.long j2), none, some (.long j6), none, some (.long x2), none, some (.long x2), none] [] (fun n h => rfl) ?_
    exact e6 j0 j2 j6 x2 _ s h
theorem f_X12_common_L6_run {xs : List Int32} {n m d g : Nat} {j0 : Int64} {j2 : Int64} {j4 : Int64} {j6 : Int64} {o8 : Option Value} {s : hq_S} {y : (Int64 × hq_S)} (hd : 0 ≤ d) (h : f_X12_common_L6 n m j0 j2 j4 j6 s = some y) : hq_R (mm_O xs) d mc_X12_common 6 [some (.long j0), none, some (.long j2), none, some (.long j4), none, some (.long j6), none, o8, none] [] s g (some (.long y.1)) y.2 := by
  induction m generalizing j0 j2 j4 j6 o8 s with
  | zero => cases h
  | succ m ih => exact f_X12_common_L6_Brun (n := n) hd (fun j0 j2 j4 j6 o8 s h => ih h) h
def f_X12_common (n : Nat) (j0 : Int64) (j2 : Int64) (s : hq_S) : Option (Int64 × hq_S) := f_X12_common_L6 n n j0 j2 j0 j2 s
theorem f_X12_common_run {xs : List Int32} {n d g : Nat} {j0 : Int64} {j2 : Int64} {s : hq_S} {y : (Int64 × hq_S)} (hd : 0 ≤ d) (h : f_X12_common n j0 j2 s = some y) : hq_R (mm_O xs) d mc_X12_common 0 [some (.long j0), none, some (.long j2), none, none, none, none, none, none, none] [] s g (some (.long y.1)) y.2 := by
  unfold f_X12_common at h
  refine hq_p 4 6 [some (.long j0), none, some (.long j2), none, some (.long j0), none, some (.long j2), none, none, none] [] (fun n h => rfl) ?_
  exact f_X12_common_L6_run hd h
