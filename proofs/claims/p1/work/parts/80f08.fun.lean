def f_X12_expression_L4_B (n : Nat) (R0 : hq_S → Option hq_S) (R1 : hq_S → Option hq_S) (R2 : hq_S → Option hq_S) (R3 : hq_S → Option hq_S) (R4 : hq_S → Option hq_S) (R5 : hq_S → Option hq_S) (q4 : hq_S → Option hq_S) (s : hq_S) : Option hq_S := (f_X12_isWord n (12 : Int32) s).bind fun y2 => if y2.1 = 0 then some y2.2 else (f_X12_knot n y2.2).bind fun s4 => (f_X12_goOn n s4).bind fun s5 => (R1 s5).bind fun s6 => (f_X12_puts n (2 : Int32) (262 : Int32) s6).bind fun s7 => q4 s7
def f_X12_expression_L4 (n : Nat) (R0 : hq_S → Option hq_S) (R1 : hq_S → Option hq_S) (R2 : hq_S → Option hq_S) (R3 : hq_S → Option hq_S) (R4 : hq_S → Option hq_S) (R5 : hq_S → Option hq_S) (m : Nat) : hq_S → Option hq_S := Nat.rec (fun _ => none) (fun _ q => f_X12_expression_L4_B n R0 R1 R2 R3 R4 R5 q) m
theorem f_X12_expression_L4_Brun {xs : List Int32} {n d g : Nat} {R0 : hq_S → Option hq_S} {R1 : hq_S → Option hq_S} {R2 : hq_S → Option hq_S} {R3 : hq_S → Option hq_S} {R4 : hq_S → Option hq_S} {R5 : hq_S → Option hq_S} {q4 : hq_S → Option hq_S} {s : hq_S} {y : hq_S} (hd : 9 ≤ d) (E0 : ∀ (s : hq_S) (y : hq_S), R0 s = some y → hq_R (mm_O xs) (d - 1) mc_X12_expression 0 [some (.ref 174)] [] s g none y) (E1 : ∀ (s : hq_S) (y : hq_S), R1 s = some y → hq_R (mm_O xs) (d - 1) mc_X12_conjunction 0 [some (.ref 174)] [] s g none y) (E2 : ∀ (s : hq_S) (y : hq_S), R2 s = some y → hq_R (mm_O xs) (d - 1) mc_X12_negation 0 [some (.ref 174), none] [] s g none y) (E3 : ∀ (s : hq_S) (y : hq_S), R3 s = some y → hq_R (mm_O xs) (d - 1) mc_X12_sum 0 [some (.ref 174), none] [] s g none y) (E4 : ∀ (s : hq_S) (y : hq_S), R4 s = some y → hq_R (mm_O xs) (d - 1) mc_X12_product 0 [some (.ref 174), none] [] s g none y) (E5 : ∀ (s : hq_S) (y : hq_S), R5 s = some y → hq_R (mm_O xs) (d - 1) mc_X12_primary 0 [some (.ref 174), none] [] s g none y) (e4 : ∀ (s : hq_S), q4 s = some y → hq_R (mm_O xs) d mc_X12_expression 4 [some (.ref 174)] [] s g none y) (h : f_X12_expression_L4_B n R0 R1 R2 R3 R4 R5 q4 s = some y) : hq_R (mm_O xs) d mc_X12_expression 4 [some (.ref 174)] [] s g none y := by
  unfold f_X12_expression_L4_B at h
  refine hq_p 2 7 [some (.ref 174)] [.int (12 : Int32), .ref 174] (fun n h => rfl) ?_
  obtain ⟨y2, hy2, h⟩ := hq_bind h
  refine hq_inv rfl rfl (Nat.le_trans (by decide) hd) rfl rfl (hq_rcv rfl rfl) (f_X12_isWord_run (Nat.le_sub_of_add_le (Nat.le_trans (by decide) hd)) hy2) rfl ?_
  by_cases c3 : y2.1 = 0
  · rw [if_pos c3] at h
    refine hq_izT rfl (hq_c_eq_T c3) ?_
    have h := Option.some.inj h
    subst h
    exact ⟨1, rfl⟩
  · rw [if_neg c3] at h
    refine hq_izF rfl (hq_c_eq_F c3) ?_
    refine hq_p 1 14 [some (.ref 174)] [.ref 174] (fun n h => rfl) ?_
    obtain ⟨s4, hs4, h⟩ := hq_bind h
    refine hq_inv rfl rfl (Nat.le_trans (by decide) hd) rfl rfl (hq_rcv rfl rfl) (f_X12_knot_run (Nat.le_sub_of_add_le (Nat.le_trans (by decide) hd)) hs4) rfl ?_
    refine hq_p 1 18 [some (.ref 174)] [.ref 174] (fun n h => rfl) ?_
    obtain ⟨s5, hs5, h⟩ := hq_bind h
    refine hq_inv rfl rfl (Nat.le_trans (by decide) hd) rfl rfl (hq_rcv rfl rfl) (f_X12_goOn_run (Nat.le_sub_of_add_le (Nat.le_trans (by decide) hd)) hs5) rfl ?_
    refine hq_p 1 22 [some (.ref 174)] [.ref 174] (fun n h => rfl) ?_
    obtain ⟨s6, hs6, h⟩ := hq_bind h
    refine hq_inv rfl rfl (Nat.le_trans (by decide) hd) rfl rfl (hq_rcv rfl rfl) (E1 _ _ hs6) rfl ?_
    refine hq_p 2 27 [some (.ref 174)] [.int (2 : Int32), .ref 174] (fun n h => rfl) ?_
    refine hq_sip (262 : Int32) rfl (by decide) ?_
    obtain ⟨s7, hs7, h⟩ := hq_bind h
    refine hq_inv rfl rfl (Nat.le_trans (by decide) hd) rfl rfl (hq_rcv rfl rfl) (f_X12_puts_run (Nat.le_sub_of_add_le (Nat.le_trans (by decide) hd)) hs7) rfl ?_
    refine hq_p 1 4 [some (.ref 174)] [] (fun n h => rfl) ?_
    exact e4 s7 h
theorem f_X12_expression_L4_run {xs : List Int32} {n m d g : Nat} {R0 : hq_S → Option hq_S} {R1 : hq_S → Option hq_S} {R2 : hq_S → Option hq_S} {R3 : hq_S → Option hq_S} {R4 : hq_S → Option hq_S} {R5 : hq_S → Option hq_S} {s : hq_S} {y : hq_S} (hd : 9 ≤ d) (E0 : ∀ (s : hq_S) (y : hq_S), R0 s = some y → hq_R (mm_O xs) (d - 1) mc_X12_expression 0 [some (.ref 174)] [] s g none y) (E1 : ∀ (s : hq_S) (y : hq_S), R1 s = some y → hq_R (mm_O xs) (d - 1) mc_X12_conjunction 0 [some (.ref 174)] [] s g none y) (E2 : ∀ (s : hq_S) (y : hq_S), R2 s = some y → hq_R (mm_O xs) (d - 1) mc_X12_negation 0 [some (.ref 174), none] [] s g none y) (E3 : ∀ (s : hq_S) (y : hq_S), R3 s = some y → hq_R (mm_O xs) (d - 1) mc_X12_sum 0 [some (.ref 174), none] [] s g none y) (E4 : ∀ (s : hq_S) (y : hq_S), R4 s = some y → hq_R (mm_O xs) (d - 1) mc_X12_product 0 [some (.ref 174), none] [] s g none y) (E5 : ∀ (s : hq_S) (y : hq_S), R5 s = some y → hq_R (mm_O xs) (d - 1) mc_X12_primary 0 [some (.ref 174), none] [] s g none y) (h : f_X12_expression_L4 n R0 R1 R2 R3 R4 R5 m s = some y) : hq_R (mm_O xs) d mc_X12_expression 4 [some (.ref 174)] [] s g none y := by
  induction m generalizing s with
  | zero => cases h
  | succ m ih => exact f_X12_expression_L4_Brun (n := n) hd E0 E1 E2 E3 E4 E5 (fun s h => ih h) h
def f_X12_expression_S (n : Nat) (R0 : hq_S → Option hq_S) (R1 : hq_S → Option hq_S) (R2 : hq_S → Option hq_S) (R3 : hq_S → Option hq_S) (R4 : hq_S → Option hq_S) (R5 : hq_S → Option hq_S) (s : hq_S) : Option hq_S := (R1 s).bind fun s1 => f_X12_expression_L4 n R0 R1 R2 R3 R4 R5 n s1
theorem f_X12_expression_S_run {xs : List Int32} {n d g : Nat} {R0 : hq_S → Option hq_S} {R1 : hq_S → Option hq_S} {R2 : hq_S → Option hq_S} {R3 : hq_S → Option hq_S} {R4 : hq_S → Option hq_S} {R5 : hq_S → Option hq_S} {s : hq_S} {y : hq_S} (hd : 9 ≤ d) (E0 : ∀ (s : hq_S) (y : hq_S), R0 s = some y → hq_R (mm_O xs) (d - 1) mc_X12_expression 0 [some (.ref 174)] [] s g none y) (E1 : ∀ (s : hq_S) (y : hq_S), R1 s = some y → hq_R (mm_O xs) (d - 1) mc_X12_conjunction 0 [some (.ref 174)] [] s g none y) (E2 : ∀ (s : hq_S) (y : hq_S), R2 s = some y → hq_R (mm_O xs) (d - 1) mc_X12_negation 0 [some (.ref 174), none] [] s g none y) (E3 : ∀ (s : hq_S) (y : hq_S), R3 s = some y → hq_R (mm_O xs) (d - 1) mc_X12_sum 0 [some (.ref 174), none] [] s g none y) (E4 : ∀ (s : hq_S) (y : hq_S), R4 s = some y → hq_R (mm_O xs) (d - 1) mc_X12_product 0 [some (.ref 174), none] [] s g none y) (E5 : ∀ (s : hq_S) (y : hq_S), R5 s = some y → hq_R (mm_O xs) (d - 1) mc_X12_primary 0 [some (.ref 174), none] [] s g none y) (h : f_X12_expression_S n R0 R1 R2 R3 R4 R5 s = some y) : hq_R (mm_O xs) d mc_X12_expression 0 [some (.ref 174)] [] s g none y := by
  unfold f_X12_expression_S at h
  refine hq_p 1 1 [some (.ref 174)] [.ref 174] (fun n h => rfl) ?_
  obtain ⟨s1, hs1, h⟩ := hq_bind h
  refine hq_inv rfl rfl (Nat.le_trans (by decide) hd) rfl rfl (hq_rcv rfl rfl) (E1 _ _ hs1) rfl ?_
  exact f_X12_expression_L4_run hd E0 E1 E2 E3 E4 E5 h
def f_X12_conjunction_L4_B (n : Nat) (R0 : hq_S → Option hq_S) (R1 : hq_S → Option hq_S) (R2 : hq_S → Option hq_S) (R3 : hq_S → Option hq_S) (R4 : hq_S → Option hq_S) (R5 : hq_S → Option hq_S) (q4 : hq_S → Option hq_S) (s : hq_S) : Option hq_S := (f_X12_isWord n (13 : Int32) s).bind fun y2 => if y2.1 = 0 then some y2.2 else (f_X12_knot n y2.2).bind fun s4 => (f_X12_goOn n s4).bind fun s5 => (R2 s5).bind fun s6 => (f_X12_puts n (2 : Int32) (261 : Int32) s6).bind fun s7 => q4 s7
def f_X12_conjunction_L4 (n : Nat) (R0 : hq_S → Option hq_S) (R1 : hq_S → Option hq_S) (R2 : hq_S → Option hq_S) (R3 : hq_S → Option hq_S) (R4 : hq_S → Option hq_S) (R5 : hq_S → Option hq_S) (m : Nat) : hq_S → Option hq_S := Nat.rec (fun _ => none) (fun _ q => f_X12_conjunction_L4_B n R0 R1 R2 R3 R4 R5 q) m
theorem f_X12_conjunction_L4_Brun {xs : List Int32} {n d g : Nat} {R0 : hq_S → Option hq_S} {R1 : hq_S → Option hq_S} {R2 : hq_S → Option hq_S} {R3 : hq_S → Option hq_S} {R4 : hq_S → Option hq_S} {R5 : hq_S → Option hq_S} {q4 : hq_S → Option hq_S} {s : hq_S} {y : hq_S} (hd : 9 ≤ d) (E0 : ∀ (s : hq_S) (y : hq_S), R0 s = some y → hq_R (mm_O xs) (d - 1) mc_X12_expression 0 [some (.ref 174)] [] s g none y) (E1 : ∀ (s : hq_S) (y : hq_S), R1 s = some y → hq_R (mm_O xs) (d - 1) mc_X12_conjunction 0 [some (.ref 174)] [] s g none y) (E2 : ∀ (s : hq_S) (y : hq_S), R2 s = some y → hq_R (mm_O xs) (d - 1) mc_X12_negation 0 [some (.ref 174), none] [] s g none y) (E3 : ∀ (s : hq_S) (y : hq_S), R3 s = some y → hq_R (mm_O xs) (d - 1) mc_X12_sum 0 [some (.ref 174), none] [] s g none y) (E4 : ∀ (s : hq_S) (y : hq_S), R4 s = some y → hq_R (mm_O xs) (d - 1) mc_X12_product 0 [some (.ref 174), none] [] s g none y) (E5 : ∀ (s : hq_S) (y : hq_S), R5 s = some y → hq_R (mm_O xs) (d - 1) mc_X12_primary 0 [some (.ref 174), none] [] s g none y) (e4 : ∀ (s : hq_S), q4 s = some y → hq_R (mm_O xs) d mc_X12_conjunction 4 [some (.ref 174)] [] s g none y) (h : f_X12_conjunction_L4_B n R0 R1 R2 R3 R4 R5 q4 s = some y) : hq_R (mm_O xs) d mc_X12_conjunction 4 [some (.ref 174)] [] s g none y := by
  unfold f_X12_conjunction_L4_B at h
  refine hq_p 2 7 [some (.ref 174)] [.int (13 : Int32), .ref 174] (fun n h => rfl) ?_
  obtain ⟨y2, hy2, h⟩ := hq_bind h
  refine hq_inv rfl rfl (Nat.le_trans (by decide) hd) rfl rfl (hq_rcv rfl rfl) (f_X12_isWord_run (Nat.le_sub_of_add_le (Nat.le_trans (by decide) hd)) hy2) rfl ?_
  by_cases c3 : y2.1 = 0
  · rw [if_pos c3] at h
    refine hq_izT rfl (hq_c_eq_T c3) ?_
    have h := Option.some.inj h
    subst h
    exact ⟨1, rfl⟩
  · rw [if_neg c3] at h
    refine hq_izF rfl (hq_c_eq_F c3) ?_
    refine hq_p 1 14 [some (.ref 174)] [.ref 174] (fun n h => rfl) ?_
    obtain ⟨s4, hs4, h⟩ := hq_bind h
    refine hq_inv rfl rfl (Nat.le_trans (by decide) hd) rfl rfl (hq_rcv rfl rfl) (f_X12_knot_run (Nat.le_sub_of_add_le (Nat.le_trans (by decide) hd)) hs4) rfl ?_
    refine hq_p 1 18 [some (.ref 174)] [.ref 174] (fun n h => rfl) ?_
    obtain ⟨s5, hs5, h⟩ := hq_bind h
    refine hq_inv rfl rfl (Nat.le_trans (by decide) hd) rfl rfl (hq_rcv rfl rfl) (f_X12_goOn_run (Nat.le_sub_of_add_le (Nat.le_trans (by decide) hd)) hs5) rfl ?_
    refine hq_p 1 22 [some (.ref 174)] [.ref 174] (fun n h => rfl) ?_
    obtain ⟨s6, hs6, h⟩ := hq_bind h
    refine hq_inv rfl rfl (Nat.le_trans (by decide) hd) rfl rfl (hq_rcv rfl rfl) (E2 _ _ hs6) rfl ?_
    refine hq_p 2 27 [some (.ref 174)] [.int (2 : Int32), .ref 174] (fun n h => rfl) ?_
    refine hq_sip (261 : Int32) rfl (by decide) ?_
    obtain ⟨s7, hs7, h⟩ := hq_bind h
    refine hq_inv rfl rfl (Nat.le_trans (by decide) hd) rfl rfl (hq_rcv rfl rfl) (f_X12_puts_run (Nat.le_sub_of_add_le (Nat.le_trans (by decide) hd)) hs7) rfl ?_
    refine hq_p 1 4 [some (.ref 174)] [] (fun n h => rfl) ?_
    exact e4 s7 h
theorem f_X12_conjunction_L4_run {xs : List Int32} {n m d g : Nat} {R0 : hq_S → Option hq_S} {R1 : hq_S → Option hq_S} {R2 : hq_S → Option hq_S} {R3 : hq_S → Option hq_S} {R4 : hq_S → Option hq_S} {R5 : hq_S → Option hq_S} {s : hq_S} {y : hq_S} (hd : 9 ≤ d) (E0 : ∀ (s : hq_S) (y : hq_S), R0 s = some y → hq_R (mm_O xs) (d - 1) mc_X12_expression 0 [some (.ref 174)] [] s g none y) (E1 : ∀ (s : hq_S) (y : hq_S), R1 s = some y → hq_R (mm_O xs) (d - 1) mc_X12_conjunction 0 [some (.ref 174)] [] s g none y) (E2 : ∀ (s : hq_S) (y : hq_S), R2 s = some y → hq_R (mm_O xs) (d - 1) mc_X12_negation 0 [some (.ref 174), none] [] s g none y) (E3 : ∀ (s : hq_S) (y : hq_S), R3 s = some y → hq_R (mm_O xs) (d - 1) mc_X12_sum 0 [some (.ref 174), none] [] s g none y) (E4 : ∀ (s : hq_S) (y : hq_S), R4 s = some y → hq_R (mm_O xs) (d - 1) mc_X12_product 0 [some (.ref 174), none] [] s g none y) (E5 : ∀ (s : hq_S) (y : hq_S), R5 s = some y → hq_R (mm_O xs) (d - 1) mc_X12_primary 0 [some (.ref 174), none] [] s g none y) (h : f_X12_conjunction_L4 n R0 R1 R2 R3 R4 R5 m s = some y) : hq_R (mm_O xs) d mc_X12_conjunction 4 [some (.ref 174)] [] s g none y := by
  induction m generalizing s with
  | zero => cases h
  | succ m ih => exact f_X12_conjunction_L4_Brun (n := n) hd E0 E1 E2 E3 E4 E5 (fun s h => ih h) h
def f_X12_conjunction_S (n : Nat) (R0 : hq_S → Option hq_S) (R1 : hq_S → Option hq_S) (R2 : hq_S → Option hq_S) (R3 : hq_S → Option hq_S) (R4 : hq_S → Option hq_S) (R5 : hq_S → Option hq_S) (s : hq_S) : Option hq_S := (R2 s).bind fun s1 => f_X12_conjunction_L4 n R0 R1 R2 R3 R4 R5 n s1
theorem f_X12_conjunction_S_run {xs : List Int32} {n d g : Nat} {R0 : hq_S → Option hq_S} {R1 : hq_S → Option hq_S} {R2 : hq_S → Option hq_S} {R3 : hq_S → Option hq_S} {R4 : hq_S → Option hq_S} {R5 : hq_S → Option hq_S} {s : hq_S} {y : hq_S} (hd : 9 ≤ d) (E0 : ∀ (s : hq_S) (y : hq_S), R0 s = some y → hq_R (mm_O xs) (d - 1) mc_X12_expression 0 [some (.ref 174)] [] s g none y) (E1 : ∀ (s : hq_S) (y : hq_S), R1 s = some y → hq_R (mm_O xs) (d - 1) mc_X12_conjunction 0 [some (.ref 174)] [] s g none y) (E2 : ∀ (s : hq_S) (y : hq_S), R2 s = some y → hq_R (mm_O xs) (d - 1) mc_X12_negation 0 [some (.ref 174), none] [] s g none y) (E3 : ∀ (s : hq_S) (y : hq_S), R3 s = some y → hq_R (mm_O xs) (d - 1) mc_X12_sum 0 [some (.ref 174), none] [] s g none y) (E4 : ∀ (s : hq_S) (y : hq_S), R4 s = some y → hq_R (mm_O xs) (d - 1) mc_X12_product 0 [some (.ref 174), none] [] s g none y) (E5 : ∀ (s : hq_S) (y : hq_S), R5 s = some y → hq_R (mm_O xs) (d - 1) mc_X12_primary 0 [some (.ref 174), none] [] s g none y) (h : f_X12_conjunction_S n R0 R1 R2 R3 R4 R5 s = some y) : hq_R (mm_O xs) d mc_X12_conjunction 0 [some (.ref 174)] [] s g none y := by
  unfold f_X12_conjunction_S at h
  refine hq_p 1 1 [some (.ref 174)] [.ref 174] (fun n h => rfl) ?_
  obtain ⟨s1, hs1, h⟩ := hq_bind h
  refine hq_inv rfl rfl (Nat.le_trans (by decide) hd) rfl rfl (hq_rcv rfl rfl) (E2 _ _ hs1) rfl ?_
  exact f_X12_conjunction_L4_run hd E0 E1 E2 E3 E4 E5 h
def f_X12_negation_J87 (n : Nat) (R0 : hq_S → Option hq_S) (R1 : hq_S → Option hq_S) (R2 : hq_S → Option hq_S) (R3 : hq_S → Option hq_S) (R4 : hq_S → Option hq_S) (R5 : hq_S → Option hq_S) (s : hq_S) : Option hq_S := (f_X12_knot n s).bind fun s7 => (f_X12_goOn n s7).bind fun s8 => (R3 s8).bind fun s9 => (f_X12_puts n (2 : Int32) (hq_gi s 174 27) s9).bind fun s10 => some s10
theorem f_X12_negation_J87_run {xs : List Int32} {n d g : Nat} {R0 : hq_S → Option hq_S} {R1 : hq_S → Option hq_S} {R2 : hq_S → Option hq_S} {R3 : hq_S → Option hq_S} {R4 : hq_S → Option hq_S} {R5 : hq_S → Option hq_S} {s : hq_S} {y : hq_S} (hd : 9 ≤ d) (E0 : ∀ (s : hq_S) (y : hq_S), R0 s = some y → hq_R (mm_O xs) (d - 1) mc_X12_expression 0 [some (.ref 174)] [] s g none y) (E1 : ∀ (s : hq_S) (y : hq_S), R1 s = some y → hq_R (mm_O xs) (d - 1) mc_X12_conjunction 0 [some (.ref 174)] [] s g none y) (E2 : ∀ (s : hq_S) (y : hq_S), R2 s = some y → hq_R (mm_O xs) (d - 1) mc_X12_negation 0 [some (.ref 174), none] [] s g none y) (E3 : ∀ (s : hq_S) (y : hq_S), R3 s = some y → hq_R (mm_O xs) (d - 1) mc_X12_sum 0 [some (.ref 174), none] [] s g none y) (E4 : ∀ (s : hq_S) (y : hq_S), R4 s = some y → hq_R (mm_O xs) (d - 1) mc_X12_product 0 [some (.ref 174), none] [] s g none y) (E5 : ∀ (s : hq_S) (y : hq_S), R5 s = some y → hq_R (mm_O xs) (d - 1) mc_X12_primary 0 [some (.ref 174), none] [] s g none y) (h : f_X12_negation_J87 n R0 R1 R2 R3 R4 R5 s = some y) : hq_R (mm_O xs) d mc_X12_negation 87 [some (.ref 174), none] [] s g none y := by
  unfold f_X12_negation_J87 at h
  refine hq_p 1 88 [some (.ref 174), none] [.ref 174] (fun n h => rfl) ?_
  refine hq_gf (x := .int (hq_gi s 174 27)) rfl rfl rfl rfl rfl ?_
  refine hq_p 2 93 [some (.ref 174), some (.int (hq_gi s 174 27))] [.ref 174] (fun n h => rfl) ?_
  obtain ⟨s7, hs7, h⟩ := hq_bind h
  refine hq_inv rfl rfl (Nat.le_trans (by decide) hd) rfl rfl (hq_rcv rfl rfl) (f_X12_knot_run (Nat.le_sub_of_add_le (Nat.le_trans (by decide) hd)) hs7) rfl ?_
  refine hq_p 1 97 [some (.ref 174), some (.int (hq_gi s 174 27))] [.ref 174] (fun n h => rfl) ?_
  obtain ⟨s8, hs8, h⟩ := hq_bind h
  refine hq_inv rfl rfl (Nat.le_trans (by decide) hd) rfl rfl (hq_rcv rfl rfl) (f_X12_goOn_run (Nat.le_sub_of_add_le (Nat.le_trans (by decide) hd)) hs8) rfl ?_
  refine hq_p 1 101 [some (.ref 174), some (.int (hq_gi s 174 27))] [.ref 174] (fun n h => rfl) ?_
  obtain ⟨s9, hs9, h⟩ := hq_bind h
  refine hq_inv rfl rfl (Nat.le_trans (by decide) hd) rfl rfl (hq_rcv rfl rfl) (E3 _ _ hs9) rfl ?_
  refine hq_p 3 107 [some (.ref 174), some (.int (hq_gi s 174 27))] [.int (hq_gi s 174 27), .int (2 : Int32), .ref 174] (fun n h => rfl) ?_
  obtain ⟨s10, hs10, h⟩ := hq_bind h
  refine hq_inv rfl rfl (Nat.le_trans (by decide) hd) rfl rfl (hq_rcv rfl rfl) (f_X12_puts_run (Nat.le_sub_of_add_le (Nat.le_trans (by decide) hd)) hs10) rfl ?_
  have h := Option.some.inj h
  subst h
  exact ⟨1, rfl⟩
def f_X12_negation_S (n : Nat) (R0 : hq_S → Option hq_S) (R1 : hq_S → Option hq_S) (R2 : hq_S → Option hq_S) (R3 : hq_S → Option hq_S) (R4 : hq_S → Option hq_S) (R5 : hq_S → Option hq_S) (s : hq_S) : Option hq_S := (f_X12_isWord n (14 : Int32) s).bind fun y1 => if y1.1 = 0 then (R3 y1.2).bind fun s3 => if (hq_gi s3 174 28) = 0 then if (hq_gi s3 174 26) = (3 : Int32) then if (hq_gi s3 174 27) = (60 : Int32) then f_X12_negation_J87 n R0 R1 R2 R3 R4 R5 s3 else if (hq_gi s3 174 27) = (62 : Int32) then f_X12_negation_J87 n R0 R1 R2 R3 R4 R5 s3 else if (hq_gi s3 174 27) = (61 : Int32) then f_X12_negation_J87 n R0 R1 R2 R3 R4 R5 s3 else if (hq_gi s3 174 27) < (256 : Int32) then some s3 else f_X12_negation_J87 n R0 R1 R2 R3 R4 R5 s3 else some s3 else some s3 else (f_X12_knot n y1.2).bind fun s14 => (f_X12_goOn n s14).bind fun s15 => (R2 s15).bind fun s16 => (f_X12_puts n (2 : Int32) (260 : Int32) s16).bind fun s17 => some s17
theorem f_X12_negation_S_run {xs : List Int32} {n d g : Nat} {R0 : hq_S → Option hq_S} {R1 : hq_S → Option hq_S} {R2 : hq_S → Option hq_S} {R3 : hq_S → Option hq_S} {R4 : hq_S → Option hq_S} {R5 : hq_S → Option hq_S} {s : hq_S} {y : hq_S} (hd : 9 ≤ d) (E0 : ∀ (s : hq_S) (y : hq_S), R0 s = some y → hq_R (mm_O xs) (d - 1) mc_X12_expression 0 [some (.ref 174)] [] s g none y) (E1 : ∀ (s : hq_S) (y : hq_S), R1 s = some y → hq_R (mm_O xs) (d - 1) mc_X12_conjunction 0 [some (.ref 174)] [] s g none y) (E2 : ∀ (s : hq_S) (y : hq_S), R2 s = some y → hq_R (mm_O xs) (d - 1) mc_X12_negation 0 [some (.ref 174), none] [] s g none y) (E3 : ∀ (s : hq_S) (y : hq_S), R3 s = some y → hq_R (mm_O xs) (d - 1) mc_X12_sum 0 [some (.ref 174), none] [] s g none y) (E4 : ∀ (s : hq_S) (y : hq_S), R4 s = some y → hq_R (mm_O xs) (d - 1) mc_X12_product 0 [some (.ref 174), none] [] s g none y) (E5 : ∀ (s : hq_S) (y : hq_S), R5 s = some y → hq_R (mm_O xs) (d - 1) mc_X12_primary 0 [some (.ref 174), none] [] s g none y) (h : f_X12_negation_S n R0 R1 R2 R3 R4 R5 s = some y) : hq_R (mm_O xs) d mc_X12_negation 0 [some (.ref 174), none] [] s g none y := by
  unfold f_X12_negation_S at h
  refine hq_p 2 3 [some (.ref 174), none] [.int (14 : Int32), .ref 174] (fun n h => rfl) ?_
  obtain ⟨y1, hy1, h⟩ := hq_bind h
  refine hq_inv rfl rfl (Nat.le_trans (by decide) hd) rfl rfl (hq_rcv rfl rfl) (f_X12_isWord_run (Nat.le_sub_of_add_le (Nat.le_trans (by decide) hd)) hy1) rfl ?_
  by_cases c2 : y1.1 = 0
  · rw [if_pos c2] at h
    refine hq_izT rfl (hq_c_eq_T c2) ?_
    refine hq_p 1 31 [some (.ref 174), none] [.ref 174] (fun n h => rfl) ?_
    obtain ⟨s3, hs3, h⟩ := hq_bind h
    refine hq_inv rfl rfl (Nat.le_trans (by decide) hd) rfl rfl (hq_rcv rfl rfl) (E3 _ _ hs3) rfl ?_
    refine hq_p 1 35 [some (.ref 174), none] [.ref 174] (fun n h => rfl) ?_
    refine hq_gf (x := .int (hq_gi s3 174 28)) rfl rfl rfl rfl rfl ?_
    by_cases c4 : (hq_gi s3 174 28) = 0
    · rw [if_pos c4] at h
      refine hq_izF rfl (hq_c_ne_F c4) ?_
      refine hq_p 1 42 [some (.ref 174), none] [.ref 174] (fun n h => rfl) ?_
      refine hq_gf (x := .int (hq_gi s3 174 26)) rfl rfl rfl rfl rfl ?_
      refine hq_p 1 46 [some (.ref 174), none] [.int (3 : Int32), .int (hq_gi s3 174 26)] (fun n h => rfl) ?_
      by_cases c5 : (hq_gi s3 174 26) = (3 : Int32)
      · rw [if_pos c5] at h
        refine hq_icF rfl (hq_c_ne_F c5) ?_
        refine hq_p 1 50 [some (.ref 174), none] [.ref 174] (fun n h => rfl) ?_
        refine hq_gf (x := .int (hq_gi s3 174 27)) rfl rfl rfl rfl rfl ?_
        refine hq_bip (60 : Int32) rfl (by decide) ?_
        by_cases c6 : (hq_gi s3 174 27) = (60 : Int32)
        · rw [if_pos c6] at h
          refine hq_icT rfl (hq_c_eq_T c6) ?_
          exact f_X12_negation_J87_run hd E0 E1 E2 E3 E4 E5 h
        · rw [if_neg c6] at h
          refine hq_icF rfl (hq_c_eq_F c6) ?_
          refine hq_p 1 59 [some (.ref 174), none] [.ref 174] (fun n h => rfl) ?_
          refine hq_gf (x := .int (hq_gi s3 174 27)) rfl rfl rfl rfl rfl ?_
          refine hq_bip (62 : Int32) rfl (by decide) ?_
          by_cases c11 : (hq_gi s3 174 27) = (62 : Int32)
          · rw [if_pos c11] at h
            refine hq_icT rfl (hq_c_eq_T c11) ?_
            exact f_X12_negation_J87_run hd E0 E1 E2 E3 E4 E5 h
          · rw [if_neg c11] at h
            refine hq_icF rfl (hq_c_eq_F c11) ?_
            refine hq_p 1 68 [some (.ref 174), none] [.ref 174] (fun n h => rfl) ?_
            refine hq_gf (x := .int (hq_gi s3 174 27)) rfl rfl rfl rfl rfl ?_
            refine hq_bip (61 : Int32) rfl (by decide) ?_
            by_cases c12 : (hq_gi s3 174 27) = (61 : Int32)
            · rw [if_pos c12] at h
              refine hq_icT rfl (hq_c_eq_T c12) ?_
              exact f_X12_negation_J87_run hd E0 E1 E2 E3 E4 E5 h
            · rw [if_neg c12] at h
              refine hq_icF rfl (hq_c_eq_F c12) ?_
              refine hq_p 1 77 [some (.ref 174), none] [.ref 174] (fun n h => rfl) ?_
              refine hq_gf (x := .int (hq_gi s3 174 27)) rfl rfl rfl rfl rfl ?_
              refine hq_sip (256 : Int32) rfl (by decide) ?_
              by_cases c13 : (hq_gi s3 174 27) < (256 : Int32)
              · rw [if_pos c13] at h
                refine hq_icF rfl (hq_c_ge_F c13) ?_
                have h := Option.some.inj h
                subst h
                exact ⟨1, rfl⟩
              · rw [if_neg c13] at h
                refine hq_icT rfl (hq_c_ge_T c13) ?_
                exact f_X12_negation_J87_run hd E0 E1 E2 E3 E4 E5 h
      · rw [if_neg c5] at h
        refine hq_icT rfl (hq_c_ne_T c5) ?_
        have h := Option.some.inj h
        subst h
        exact ⟨1, rfl⟩
    · rw [if_neg c4] at h
      refine hq_izT rfl (hq_c_ne_T c4) ?_
      have h := Option.some.inj h
      subst h
      exact ⟨1, rfl⟩
  · rw [if_neg c2] at h
    refine hq_izF rfl (hq_c_eq_F c2) ?_
    refine hq_p 1 10 [some (.ref 174), none] [.ref 174] (fun n h => rfl) ?_
    obtain ⟨s14, hs14, h⟩ := hq_bind h
    refine hq_inv rfl rfl (Nat.le_trans (by decide) hd) rfl rfl (hq_rcv rfl rfl) (f_X12_knot_run (Nat.le_sub_of_add_le (Nat.le_trans (by decide) hd)) hs14) rfl ?_
    refine hq_p 1 14 [some (.ref 174), none] [.ref 174] (fun n h => rfl) ?_
    obtain ⟨s15, hs15, h⟩ := hq_bind h
    refine hq_inv rfl rfl (Nat.le_trans (by decide) hd) rfl rfl (hq_rcv rfl rfl) (f_X12_goOn_run (Nat.le_sub_of_add_le (Nat.le_trans (by decide) hd)) hs15) rfl ?_
    refine hq_p 1 18 [some (.ref 174), none] [.ref 174] (fun n h => rfl) ?_
    obtain ⟨s16, hs16, h⟩ := hq_bind h
    refine hq_inv rfl rfl (Nat.le_trans (by decide) hd) rfl rfl (hq_rcv rfl rfl) (E2 _ _ hs16) rfl ?_
    refine hq_p 2 23 [some (.ref 174), none] [.int (2 : Int32), .ref 174] (fun n h => rfl) ?_
    refine hq_sip (260 : Int32) rfl (by decide) ?_
    obtain ⟨s17, hs17, h⟩ := hq_bind h
    refine hq_inv rfl rfl (Nat.le_trans (by decide) hd) rfl rfl (hq_rcv rfl rfl) (f_X12_puts_run (Nat.le_sub_of_add_le (Nat.le_trans (by decide) hd)) hs17) rfl ?_
    have h := Option.some.inj h
    subst h
    exact ⟨1, rfl⟩
def f_X12_sum_J22 (n : Nat) (R0 : hq_S → Option hq_S) (R1 : hq_S → Option hq_S) (R2 : hq_S → Option hq_S) (R3 : hq_S → Option hq_S) (R4 : hq_S → Option hq_S) (R5 : hq_S → Option hq_S) (q4 : hq_S → Option hq_S) (s : hq_S) : Option hq_S := (f_X12_knot n s).bind fun s4 => (f_X12_goOn n s4).bind fun s5 => (R4 s5).bind fun s6 => (f_X12_puts n (2 : Int32) (hq_gi s 174 27) s6).bind fun s7 => q4 s7
theorem f_X12_sum_J22_run {xs : List Int32} {n d g : Nat} {R0 : hq_S → Option hq_S} {R1 : hq_S → Option hq_S} {R2 : hq_S → Option hq_S} {R3 : hq_S → Option hq_S} {R4 : hq_S → Option hq_S} {R5 : hq_S → Option hq_S} {o1 : Option Value} {q4 : hq_S → Option hq_S} {s : hq_S} {y : hq_S} (hd : 9 ≤ d) (E0 : ∀ (s : hq_S) (y : hq_S), R0 s = some y → hq_R (mm_O xs) (d - 1) mc_X12_expression 0 [some (.ref 174)] [] s g none y) (E1 : ∀ (s : hq_S) (y : hq_S), R1 s = some y → hq_R (mm_O xs) (d - 1) mc_X12_conjunction 0 [some (.ref 174)] [] s g none y) (E2 : ∀ (s : hq_S) (y : hq_S), R2 s = some y → hq_R (mm_O xs) (d - 1) mc_X12_negation 0 [some (.ref 174), none] [] s g none y) (E3 : ∀ (s : hq_S) (y : hq_S), R3 s = some y → hq_R (mm_O xs) (d - 1) mc_X12_sum 0 [some (.ref 174), none] [] s g none y) (E4 : ∀ (s : hq_S) (y : hq_S), R4 s = some y → hq_R (mm_O xs) (d - 1) mc_X12_product 0 [some (.ref 174), none] [] s g none y) (E5 : ∀ (s : hq_S) (y : hq_S), R5 s = some y → hq_R (mm_O xs) (d - 1) mc_X12_primary 0 [some (.ref 174), none] [] s g none y) (e4 : ∀ (o1 : Option Value) (s : hq_S), q4 s = some y → hq_R (mm_O xs) d mc_X12_sum 4 [some (.ref 174), o1] [] s g none y) (h : f_X12_sum_J22 n R0 R1 R2 R3 R4 R5 q4 s = some y) : hq_R (mm_O xs) d mc_X12_sum 22 [some (.ref 174), o1] [] s g none y := by
  unfold f_X12_sum_J22 at h
  refine hq_p 1 23 [some (.ref 174), o1] [.ref 174] (fun n h => rfl) ?_
  refine hq_gf (x := .int (hq_gi s 174 27)) rfl rfl rfl rfl rfl ?_
  refine hq_p 2 28 [some (.ref 174), some (.int (hq_gi s 174 27))] [.ref 174] (fun n h => rfl) ?_
  obtain ⟨s4, hs4, h⟩ := hq_bind h
  refine hq_inv rfl rfl (Nat.le_trans (by decide) hd) rfl rfl (hq_rcv rfl rfl) (f_X12_knot_run (Nat.le_sub_of_add_le (Nat.le_trans (by decide) hd)) hs4) rfl ?_
  refine hq_p 1 32 [some (.ref 174), some (.int (hq_gi s 174 27))] [.ref 174] (fun n h => rfl) ?_
  obtain ⟨s5, hs5, h⟩ := hq_bind h
  refine hq_inv rfl rfl (Nat.le_trans (by decide) hd) rfl rfl (hq_rcv rfl rfl) (f_X12_goOn_run (Nat.le_sub_of_add_le (Nat.le_trans (by decide) hd)) hs5) rfl ?_
  refine hq_p 1 36 [some (.ref 174), some (.int (hq_gi s 174 27))] [.ref 174] (fun n h => rfl) ?_
  obtain ⟨s6, hs6, h⟩ := hq_bind h
  refine hq_inv rfl rfl (Nat.le_trans (by decide) hd) rfl rfl (hq_rcv rfl rfl) (E4 _ _ hs6) rfl ?_
  refine hq_p 3 42 [some (.ref 174), some (.int (hq_gi s 174 27))] [.int (hq_gi s 174 27), .int (2 : Int32), .ref 174] (fun n h => rfl) ?_
  obtain ⟨s7, hs7, h⟩ := hq_bind h
  refine hq_inv rfl rfl (Nat.le_trans (by decide) hd) rfl rfl (hq_rcv rfl rfl) (f_X12_puts_run (Nat.le_sub_of_add_le (Nat.le_trans (by decide) hd)) hs7) rfl ?_
  refine hq_p 1 4 [some (.ref 174), some (.int (hq_gi s 174 27))] [] (fun n h => rfl) ?_
  exact e4 _ s7 h
def f_X12_sum_L4_B (n : Nat) (R0 : hq_S → Option hq_S) (R1 : hq_S → Option hq_S) (R2 : hq_S → Option hq_S) (R3 : hq_S → Option hq_S) (R4 : hq_S → Option hq_S) (R5 : hq_S → Option hq_S) (q4 : hq_S → Option hq_S) (s : hq_S) : Option hq_S := (f_X12_isSign n (43 : Int32) s).bind fun y2 => if y2.1 = 0 then (f_X12_isSign n (45 : Int32) y2.2).bind fun y8 => if y8.1 = 0 then some y8.2 else f_X12_sum_J22 n R0 R1 R2 R3 R4 R5 q4 y8.2 else f_X12_sum_J22 n R0 R1 R2 R3 R4 R5 q4 y2.2
def f_X12_sum_L4 (n : Nat) (R0 : hq_S → Option hq_S) (R1 : hq_S → Option hq_S) (R2 : hq_S → Option hq_S) (R3 : hq_S → Option hq_S) (R4 : hq_S → Option hq_S) (R5 : hq_S → Option hq_S) (m : Nat) : hq_S → Option hq_S := Nat.rec (fun _ => none) (fun _ q => f_X12_sum_L4_B n R0 R1 R2 R3 R4 R5 q) m
theorem f_X12_sum_L4_Brun {xs : List Int32} {n d g : Nat} {R0 : hq_S → Option hq_S} {R1 : hq_S → Option hq_S} {R2 : hq_S → Option hq_S} {R3 : hq_S → Option hq_S} {R4 : hq_S → Option hq_S} {R5 : hq_S → Option hq_S} {o1 : Option Value} {q4 : hq_S → Option hq_S} {s : hq_S} {y : hq_S} (hd : 9 ≤ d) (E0 : ∀ (s : hq_S) (y : hq_S), R0 s = some y → hq_R (mm_O xs) (d - 1) mc_X12_expression 0 [some (.ref 174)] [] s g none y) (E1 : ∀ (s : hq_S) (y : hq_S), R1 s = some y → hq_R (mm_O xs) (d - 1) mc_X12_conjunction 0 [some (.ref 174)] [] s g none y) (E2 : ∀ (s : hq_S) (y : hq_S), R2 s = some y → hq_R (mm_O xs) (d - 1) mc_X12_negation 0 [some (.ref 174), none] [] s g none y) (E3 : ∀ (s : hq_S) (y : hq_S), R3 s = some y → hq_R (mm_O xs) (d - 1) mc_X12_sum 0 [some (.ref 174), none] [] s g none y) (E4 : ∀ (s : hq_S) (y : hq_S), R4 s = some y → hq_R (mm_O xs) (d - 1) mc_X12_product 0 [some (.ref 174), none] [] s g none y) (E5 : ∀ (s : hq_S) (y : hq_S), R5 s = some y → hq_R (mm_O xs) (d - 1) mc_X12_primary 0 [some (.ref 174), none] [] s g none y) (e4 : ∀ (o1 : Option Value) (s : hq_S), q4 s = some y → hq_R (mm_O xs) d mc_X12_sum 4 [some (.ref 174), o1] [] s g none y) (h : f_X12_sum_L4_B n R0 R1 R2 R3 R4 R5 q4 s = some y) : hq_R (mm_O xs) d mc_X12_sum 4 [some (.ref 174), o1] [] s g none y := by
  unfold f_X12_sum_L4_B at h
  refine hq_p 1 5 [some (.ref 174), o1] [.ref 174] (fun n h => rfl) ?_
  refine hq_bip (43 : Int32) rfl (by decide) ?_
  obtain ⟨y2, hy2, h⟩ := hq_bind h
  refine hq_inv rfl rfl (Nat.le_trans (by decide) hd) rfl rfl (hq_rcv rfl rfl) (f_X12_isSign_run (Nat.le_sub_of_add_le (Nat.le_trans (by decide) hd)) hy2) rfl ?_
  by_cases c3 : y2.1 = 0
  · rw [if_pos c3] at h
    refine hq_izF rfl (hq_c_ne_F c3) ?_
    refine hq_p 1 14 [some (.ref 174), o1] [.ref 174] (fun n h => rfl) ?_
    refine hq_bip (45 : Int32) rfl (by decide) ?_
    obtain ⟨y8, hy8, h⟩ := hq_bind h
    refine hq_inv rfl rfl (Nat.le_trans (by decide) hd) rfl rfl (hq_rcv rfl rfl) (f_X12_isSign_run (Nat.le_sub_of_add_le (Nat.le_trans (by decide) hd)) hy8) rfl ?_
    by_cases c9 : y8.1 = 0
    · rw [if_pos c9] at h
      refine hq_izT rfl (hq_c_eq_T c9) ?_
      have h := Option.some.inj h
      subst h
      exact ⟨1, rfl⟩
    · rw [if_neg c9] at h
      refine hq_izF rfl (hq_c_eq_F c9) ?_
      exact f_X12_sum_J22_run hd E0 E1 E2 E3 E4 E5 e4 h
  · rw [if_neg c3] at h
    refine hq_izT rfl (hq_c_ne_T c3) ?_
    exact f_X12_sum_J22_run hd E0 E1 E2 E3 E4 E5 e4 h
theorem f_X12_sum_L4_run {xs : List Int32} {n m d g : Nat} {R0 : hq_S → Option hq_S} {R1 : hq_S → Option hq_S} {R2 : hq_S → Option hq_S} {R3 : hq_S → Option hq_S} {R4 : hq_S → Option hq_S} {R5 : hq_S → Option hq_S} {o1 : Option Value} {s : hq_S} {y : hq_S} (hd : 9 ≤ d) (E0 : ∀ (s : hq_S) (y : hq_S), R0 s = some y → hq_R (mm_O xs) (d - 1) mc_X12_expression 0 [some (.ref 174)] [] s g none y) (E1 : ∀ (s : hq_S) (y : hq_S), R1 s = some y → hq_R (mm_O xs) (d - 1) mc_X12_conjunction 0 [some (.ref 174)] [] s g none y) (E2 : ∀ (s : hq_S) (y : hq_S), R2 s = some y → hq_R (mm_O xs) (d - 1) mc_X12_negation 0 [some (.ref 174), none] [] s g none y) (E3 : ∀ (s : hq_S) (y : hq_S), R3 s = some y → hq_R (mm_O xs) (d - 1) mc_X12_sum 0 [some (.ref 174), none] [] s g none y) (E4 : ∀ (s : hq_S) (y : hq_S), R4 s = some y → hq_R (mm_O xs) (d - 1) mc_X12_product 0 [some (.ref 174), none] [] s g none y) (E5 : ∀ (s : hq_S) (y : hq_S), R5 s = some y → hq_R (mm_O xs) (d - 1) mc_X12_primary 0 [some (.ref 174), none] [] s g none y) (h : f_X12_sum_L4 n R0 R1 R2 R3 R4 R5 m s = some y) : hq_R (mm_O xs) d mc_X12_sum 4 [some (.ref 174), o1] [] s g none y := by
  induction m generalizing o1 s with
  | zero => cases h
  | succ m ih => exact f_X12_sum_L4_Brun (n := n) hd E0 E1 E2 E3 E4 E5 (fun o1 s h => ih h) h
def f_X12_sum_S (n : Nat) (R0 : hq_S → Option hq_S) (R1 : hq_S → Option hq_S) (R2 : hq_S → Option hq_S) (R3 : hq_S → Option hq_S) (R4 : hq_S → Option hq_S) (R5 : hq_S → Option hq_S) (s : hq_S) : Option hq_S := (R4 s).bind fun s1 => f_X12_sum_L4 n R0 R1 R2 R3 R4 R5 n s1
theorem f_X12_sum_S_run {xs : List Int32} {n d g : Nat} {R0 : hq_S → Option hq_S} {R1 : hq_S → Option hq_S} {R2 : hq_S → Option hq_S} {R3 : hq_S → Option hq_S} {R4 : hq_S → Option hq_S} {R5 : hq_S → Option hq_S} {s : hq_S} {y : hq_S} (hd : 9 ≤ d) (E0 : ∀ (s : hq_S) (y : hq_S), R0 s = some y → hq_R (mm_O xs) (d - 1) mc_X12_expression 0 [some (.ref 174)] [] s g none y) (E1 : ∀ (s : hq_S) (y : hq_S), R1 s = some y → hq_R (mm_O xs) (d - 1) mc_X12_conjunction 0 [some (.ref 174)] [] s g none y) (E2 : ∀ (s : hq_S) (y : hq_S), R2 s = some y → hq_R (mm_O xs) (d - 1) mc_X12_negation 0 [some (.ref 174), none] [] s g none y) (E3 : ∀ (s : hq_S) (y : hq_S), R3 s = some y → hq_R (mm_O xs) (d - 1) mc_X12_sum 0 [some (.ref 174), none] [] s g none y) (E4 : ∀ (s : hq_S) (y : hq_S), R4 s = some y → hq_R (mm_O xs) (d - 1) mc_X12_product 0 [some (.ref 174), none] [] s g none y) (E5 : ∀ (s : hq_S) (y : hq_S), R5 s = some y → hq_R (mm_O xs) (d - 1) mc_X12_primary 0 [some (.ref 174), none] [] s g none y) (h : f_X12_sum_S n R0 R1 R2 R3 R4 R5 s = some y) : hq_R (mm_O xs) d mc_X12_sum 0 [some (.ref 174), none] [] s g none y := by
  unfold f_X12_sum_S at h
  refine hq_p 1 1 [some (.ref 174), none] [.ref 174] (fun n h => rfl) ?_
  obtain ⟨s1, hs1, h⟩ := hq_bind h
  refine hq_inv rfl rfl (Nat.le_trans (by decide) hd) rfl rfl (hq_rcv rfl rfl) (E4 _ _ hs1) rfl ?_
  exact f_X12_sum_L4_run hd E0 E1 E2 E3 E4 E5 h
def f_X12_product_J22 (n : Nat) (R0 : hq_S → Option hq_S) (R1 : hq_S → Option hq_S) (R2 : hq_S → Option hq_S) (R3 : hq_S → Option hq_S) (R4 : hq_S → Option hq_S) (R5 : hq_S → Option hq_S) (q4 : hq_S → Option hq_S) (s : hq_S) : Option hq_S := (f_X12_knot n s).bind fun s4 => (f_X12_goOn n s4).bind fun s5 => (R5 s5).bind fun s6 => (f_X12_puts n (2 : Int32) (hq_gi s 174 27) s6).bind fun s7 => q4 s7
theorem f_X12_product_J22_run {xs : List Int32} {n d g : Nat} {R0 : hq_S → Option hq_S} {R1 : hq_S → Option hq_S} {R2 : hq_S → Option hq_S} {R3 : hq_S → Option hq_S} {R4 : hq_S → Option hq_S} {R5 : hq_S → Option hq_S} {o1 : Option Value} {q4 : hq_S → Option hq_S} {s : hq_S} {y : hq_S} (hd : 9 ≤ d) (E0 : ∀ (s : hq_S) (y : hq_S), R0 s = some y → hq_R (mm_O xs) (d - 1) mc_X12_expression 0 [some (.ref 174)] [] s g none y) (E1 : ∀ (s : hq_S) (y : hq_S), R1 s = some y → hq_R (mm_O xs) (d - 1) mc_X12_conjunction 0 [some (.ref 174)] [] s g none y) (E2 : ∀ (s : hq_S) (y : hq_S), R2 s = some y → hq_R (mm_O xs) (d - 1) mc_X12_negation 0 [some (.ref 174), none] [] s g none y) (E3 : ∀ (s : hq_S) (y : hq_S), R3 s = some y → hq_R (mm_O xs) (d - 1) mc_X12_sum 0 [some (.ref 174), none] [] s g none y) (E4 : ∀ (s : hq_S) (y : hq_S), R4 s = some y → hq_R (mm_O xs) (d - 1) mc_X12_product 0 [some (.ref 174), none] [] s g none y) (E5 : ∀ (s : hq_S) (y : hq_S), R5 s = some y → hq_R (mm_O xs) (d - 1) mc_X12_primary 0 [some (.ref 174), none] [] s g none y) (e4 : ∀ (o1 : Option Value) (s : hq_S), q4 s = some y → hq_R (mm_O xs) d mc_X12_product 4 [some (.ref 174), o1] [] s g none y) (h : f_X12_product_J22 n R0 R1 R2 R3 R4 R5 q4 s = some y) : hq_R (mm_O xs) d mc_X12_product 22 [some (.ref 174), o1] [] s g none y := by
  unfold f_X12_product_J22 at h
  refine hq_p 1 23 [some (.ref 174), o1] [.ref 174] (fun n h => rfl) ?_
  refine hq_gf (x := .int (hq_gi s 174 27)) rfl rfl rfl rfl rfl ?_
  refine hq_p 2 28 [some (.ref 174), some (.int (hq_gi s 174 27))] [.ref 174] (fun n h => rfl) ?_
  obtain ⟨s4, hs4, h⟩ := hq_bind h
  refine hq_inv rfl rfl (Nat.le_trans (by decide) hd) rfl rfl (hq_rcv rfl rfl) (f_X12_knot_run (Nat.le_sub_of_add_le (Nat.le_trans (by decide) hd)) hs4) rfl ?_
  refine hq_p 1 32 [some (.ref 174), some (.int (hq_gi s 174 27))] [.ref 174] (fun n h => rfl) ?_
  obtain ⟨s5, hs5, h⟩ := hq_bind h
  refine hq_inv rfl rfl (Nat.le_trans (by decide) hd) rfl rfl (hq_rcv rfl rfl) (f_X12_goOn_run (Nat.le_sub_of_add_le (Nat.le_trans (by decide) hd)) hs5) rfl ?_
  refine hq_p 1 36 [some (.ref 174), some (.int (hq_gi s 174 27))] [.ref 174] (fun n h => rfl) ?_
  obtain ⟨s6, hs6, h⟩ := hq_bind h
  refine hq_inv rfl rfl (Nat.le_trans (by decide) hd) rfl rfl (hq_rcv rfl rfl) (E5 _ _ hs6) rfl ?_
  refine hq_p 3 42 [some (.ref 174), some (.int (hq_gi s 174 27))] [.int (hq_gi s 174 27), .int (2 : Int32), .ref 174] (fun n h => rfl) ?_
  obtain ⟨s7, hs7, h⟩ := hq_bind h
  refine hq_inv rfl rfl (Nat.le_trans (by decide) hd) rfl rfl (hq_rcv rfl rfl) (f_X12_puts_run (Nat.le_sub_of_add_le (Nat.le_trans (by decide) hd)) hs7) rfl ?_
  refine hq_p 1 4 [some (.ref 174), some (.int (hq_gi s 174 27))] [] (fun n h => rfl) ?_
  exact e4 _ s7 h
def f_X12_product_L4_B (n : Nat) (R0 : hq_S → Option hq_S) (R1 : hq_S → Option hq_S) (R2 : hq_S → Option hq_S) (R3 : hq_S → Option hq_S) (R4 : hq_S → Option hq_S) (R5 : hq_S → Option hq_S) (q4 : hq_S → Option hq_S) (s : hq_S) : Option hq_S := (f_X12_isSign n (42 : Int32) s).bind fun y2 => if y2.1 = 0 then (f_X12_isSign n (47 : Int32) y2.2).bind fun y8 => if y8.1 = 0 then some y8.2 else f_X12_product_J22 n R0 R1 R2 R3 R4 R5 q4 y8.2 else f_X12_product_J22 n R0 R1 R2 R3 R4 R5 q4 y2.2
def f_X12_product_L4 (n : Nat) (R0 : hq_S → Option hq_S) (R1 : hq_S → Option hq_S) (R2 : hq_S → Option hq_S) (R3 : hq_S → Option hq_S) (R4 : hq_S → Option hq_S) (R5 : hq_S → Option hq_S) (m : Nat) : hq_S → Option hq_S := Nat.rec (fun _ => none) (fun _ q => f_X12_product_L4_B n R0 R1 R2 R3 R4 R5 q) m
theorem f_X12_product_L4_Brun {xs : List Int32} {n d g : Nat} {R0 : hq_S → Option hq_S} {R1 : hq_S → Option hq_S} {R2 : hq_S → Option hq_S} {R3 : hq_S → Option hq_S} {R4 : hq_S → Option hq_S} {R5 : hq_S → Option hq_S} {o1 : Option Value} {q4 : hq_S → Option hq_S} {s : hq_S} {y : hq_S} (hd : 9 ≤ d) (E0 : ∀ (s : hq_S) (y : hq_S), R0 s = some y → hq_R (mm_O xs) (d - 1) mc_X12_expression 0 [some (.ref 174)] [] s g none y) (E1 : ∀ (s : hq_S) (y : hq_S), R1 s = some y → hq_R (mm_O xs) (d - 1) mc_X12_conjunction 0 [some (.ref 174)] [] s g none y) (E2 : ∀ (s : hq_S) (y : hq_S), R2 s = some y → hq_R (mm_O xs) (d - 1) mc_X12_negation 0 [some (.ref 174), none] [] s g none y) (E3 : ∀ (s : hq_S) (y : hq_S), R3 s = some y → hq_R (mm_O xs) (d - 1) mc_X12_sum 0 [some (.ref 174), none] [] s g none y) (E4 : ∀ (s : hq_S) (y : hq_S), R4 s = some y → hq_R (mm_O xs) (d - 1) mc_X12_product 0 [some (.ref 174), none] [] s g none y) (E5 : ∀ (s : hq_S) (y : hq_S), R5 s = some y → hq_R (mm_O xs) (d - 1) mc_X12_primary 0 [some (.ref 174), none] [] s g none y) (e4 : ∀ (o1 : Option Value) (s : hq_S), q4 s = some y → hq_R (mm_O xs) d mc_X12_product 4 [some (.ref 174), o1] [] s g none y) (h : f_X12_product_L4_B n R0 R1 R2 R3 R4 R5 q4 s = some y) : hq_R (mm_O xs) d mc_X12_product 4 [some (.ref 174), o1] [] s g none y := by
  unfold f_X12_product_L4_B at h
  refine hq_p 1 5 [some (.ref 174), o1] [.ref 174] (fun n h => rfl) ?_
  refine hq_bip (42 : Int32) rfl (by decide) ?_
  obtain ⟨y2, hy2, h⟩ := hq_bind h
  refine hq_inv rfl rfl (Nat.le_trans (by decide) hd) rfl rfl (hq_rcv rfl rfl) (f_X12_isSign_run (Nat.le_sub_of_add_le (Nat.le_trans (by decide) hd)) hy2) rfl ?_
  by_cases c3 : y2.1 = 0
  · rw [if_pos c3] at h
    refine hq_izF rfl (hq_c_ne_F c3) ?_
    refine hq_p 1 14 [some (.ref 174), o1] [.ref 174] (fun n h => rfl) ?_
    refine hq_bip (47 : Int32) rfl (by decide) ?_
    obtain ⟨y8, hy8, h⟩ := hq_bind h
    refine hq_inv rfl rfl (Nat.le_trans (by decide) hd) rfl rfl (hq_rcv rfl rfl) (f_X12_isSign_run (Nat.le_sub_of_add_le (Nat.le_trans (by decide) hd)) hy8) rfl ?_
    by_cases c9 : y8.1 = 0
    · rw [if_pos c9] at h
      refine hq_izT rfl (hq_c_eq_T c9) ?_
      have h := Option.some.inj h
      subst h
      exact ⟨1, rfl⟩
    · rw [if_neg c9] at h
      refine hq_izF rfl (hq_c_eq_F c9) ?_
      exact f_X12_product_J22_run hd E0 E1 E2 E3 E4 E5 e4 h
  · rw [if_neg c3] at h
    refine hq_izT rfl (hq_c_ne_T c3) ?_
    exact f_X12_product_J22_run hd E0 E1 E2 E3 E4 E5 e4 h
theorem f_X12_product_L4_run {xs : List Int32} {n m d g : Nat} {R0 : hq_S → Option hq_S} {R1 : hq_S → Option hq_S} {R2 : hq_S → Option hq_S} {R3 : hq_S → Option hq_S} {R4 : hq_S → Option hq_S} {R5 : hq_S → Option hq_S} {o1 : Option Value} {s : hq_S} {y : hq_S} (hd : 9 ≤ d) (E0 : ∀ (s : hq_S) (y : hq_S), R0 s = some y → hq_R (mm_O xs) (d - 1) mc_X12_expression 0 [some (.ref 174)] [] s g none y) (E1 : ∀ (s : hq_S) (y : hq_S), R1 s = some y → hq_R (mm_O xs) (d - 1) mc_X12_conjunction 0 [some (.ref 174)] [] s g none y) (E2 : ∀ (s : hq_S) (y : hq_S), R2 s = some y → hq_R (mm_O xs) (d - 1) mc_X12_negation 0 [some (.ref 174), none] [] s g none y) (E3 : ∀ (s : hq_S) (y : hq_S), R3 s = some y → hq_R (mm_O xs) (d - 1) mc_X12_sum 0 [some (.ref 174), none] [] s g none y) (E4 : ∀ (s : hq_S) (y : hq_S), R4 s = some y → hq_R (mm_O xs) (d - 1) mc_X12_product 0 [some (.ref 174), none] [] s g none y) (E5 : ∀ (s : hq_S) (y : hq_S), R5 s = some y → hq_R (mm_O xs) (d - 1) mc_X12_primary 0 [some (.ref 174), none] [] s g none y) (h : f_X12_product_L4 n R0 R1 R2 R3 R4 R5 m s = some y) : hq_R (mm_O xs) d mc_X12_product 4 [some (.ref 174), o1] [] s g none y := by
  induction m generalizing o1 s with
  | zero => cases h
  | succ m ih => exact f_X12_product_L4_Brun (n := n) hd E0 E1 E2 E3 E4 E5 (fun o1 s h => ih h) h
def f_X12_product_S (n : Nat) (R0 : hq_S → Option hq_S) (R1 : hq_S → Option hq_S) (R2 : hq_S → Option hq_S) (R3 : hq_S → Option hq_S) (R4 : hq_S → Option hq_S) (R5 : hq_S → Option hq_S) (s : hq_S) : Option hq_S := (R5 s).bind fun s1 => f_X12_product_L4 n R0 R1 R2 R3 R4 R5 n s1
theorem f_X12_product_S_run {xs : List Int32} {n d g : Nat} {R0 : hq_S → Option hq_S} {R1 : hq_S → Option hq_S} {R2 : hq_S → Option hq_S} {R3 : hq_S → Option hq_S} {R4 : hq_S → Option hq_S} {R5 : hq_S → Option hq_S} {s : hq_S} {y : hq_S} (hd : 9 ≤ d) (E0 : ∀ (s : hq_S) (y : hq_S), R0 s = some y → hq_R (mm_O xs) (d - 1) mc_X12_expression 0 [some (.ref 174)] [] s g none y) (E1 : ∀ (s : hq_S) (y : hq_S), R1 s = some y → hq_R (mm_O xs) (d - 1) mc_X12_conjunction 0 [some (.ref 174)] [] s g none y) (E2 : ∀ (s : hq_S) (y : hq_S), R2 s = some y → hq_R (mm_O xs) (d - 1) mc_X12_negation 0 [some (.ref 174), none] [] s g none y) (E3 : ∀ (s : hq_S) (y : hq_S), R3 s = some y → hq_R (mm_O xs) (d - 1) mc_X12_sum 0 [some (.ref 174), none] [] s g none y) (E4 : ∀ (s : hq_S) (y : hq_S), R4 s = some y → hq_R (mm_O xs) (d - 1) mc_X12_product 0 [some (.ref 174), none] [] s g none y) (E5 : ∀ (s : hq_S) (y : hq_S), R5 s = some y → hq_R (mm_O xs) (d - 1) mc_X12_primary 0 [some (.ref 174), none] [] s g none y) (h : f_X12_product_S n R0 R1 R2 R3 R4 R5 s = some y) : hq_R (mm_O xs) d mc_X12_product 0 [some (.ref 174), none] [] s g none y := by
  unfold f_X12_product_S at h
  refine hq_p 1 1 [some (.ref 174), none] [.ref 174] (fun n h => rfl) ?_
  obtain ⟨s1, hs1, h⟩ := hq_bind h
  refine hq_inv rfl rfl (Nat.le_trans (by decide) hd) rfl rfl (hq_rcv rfl rfl) (E5 _ _ hs1) rfl ?_
  exact f_X12_product_L4_run hd E0 E1 E2 E3 E4 E5 h
def f_X12_primary_S (n : Nat) (R0 : hq_S → Option hq_S) (R1 : hq_S → Option hq_S) (R2 : hq_S → Option hq_S) (R3 : hq_S → Option hq_S) (R4 : hq_S → Option hq_S) (R5 : hq_S → Option hq_S) (s : hq_S) : Option hq_S := if (hq_gi s 174 28) = 0 then (f_X12_isSign n (40 : Int32) s).bind fun y2 => if y2.1 = 0 then (if (hq_gi y2.2 174 26) = (2 : Int32) then some (1 : Int32) else some (0 : Int32)).bind fun z4 => (if z4 = 0 then if z4 = 0 then if (hq_gi y2.2 174 26) = 0 then if (hq_gi y2.2 174 27) < (15 : Int32) then (f_X12_wrong n (1 : Int32) y2.2).bind fun s12 => some s12 else some y2.2 else (f_X12_wrong n (1 : Int32) y2.2).bind fun s10 => some s10 else some y2.2 else if (9999 : Int32) < (hq_gi y2.2 174 27) then (f_X12_wrong n (2 : Int32) y2.2).bind fun s19 => some s19 else if z4 = 0 then if (hq_gi y2.2 174 26) = 0 then if (hq_gi y2.2 174 27) < (15 : Int32) then (f_X12_wrong n (1 : Int32) y2.2).bind fun s18 => some s18 else some y2.2 else (f_X12_wrong n (1 : Int32) y2.2).bind fun s16 => some s16 else some y2.2).bind fun z6 => (f_X12_knot n z6).bind fun s20 => (if z4 = 0 then some (1 : Int32) else some (0 : Int32)).bind fun z21 => (if z4 = 0 then some ((hq_gi s20 174 27) - (15 : Int32)) else some (hq_gi s20 174 27)).bind fun z23 => (f_X12_puts n z21 z23 s20).bind fun s25 => (f_X12_goOn n s25).bind fun s26 => some s26 else (if (hq_gi y2.2 174 32) = (8 : Int32) then (f_X12_wrong n (2 : Int32) y2.2).bind fun s29 => some s29 else some y2.2).bind fun z27 => if (hq_gi z27 174 28) = 0 then (hq_pi z27 174 32 0 ((hq_gi z27 174 32) + (1 : Int32))).bind fun s31 => (f_X12_token n s31).bind fun s32 => (R0 s32).bind fun s33 => (if (hq_gi s33 174 28) = 0 then (f_X12_isSign n (41 : Int32) s33).bind fun y36 => if y36.1 = 0 then (f_X12_wrong n (1 : Int32) y36.2).bind fun s38 => some s38 else some y36.2 else some s33).bind fun z34 => if (hq_gi z34 174 28) = 0 then (hq_pi z34 174 32 0 ((hq_gi z34 174 32) - (1 : Int32))).bind fun s40 => (f_X12_token n s40).bind fun s41 => some s41 else some z34 else some z27 else some s
theorem f_X12_primary_S_run {xs : List Int32} {n d g : Nat} {R0 : hq_S → Option hq_S} {R1 : hq_S → Option hq_S} {R2 : hq_S → Option hq_S} {R3 : hq_S → Option hq_S} {R4 : hq_S → Option hq_S} {R5 : hq_S → Option hq_S} {s : hq_S} {y : hq_S} (hd : 9 ≤ d) (E0 : ∀ (s : hq_S) (y : hq_S), R0 s = some y → hq_R (mm_O xs) (d - 1) mc_X12_expression 0 [some (.ref 174)] [] s g none y) (E1 : ∀ (s : hq_S) (y : hq_S), R1 s = some y → hq_R (mm_O xs) (d - 1) mc_X12_conjunction 0 [some (.ref 174)] [] s g none y) (E2 : ∀ (s : hq_S) (y : hq_S), R2 s = some y → hq_R (mm_O xs) (d - 1) mc_X12_negation 0 [some (.ref 174), none] [] s g none y) (E3 : ∀ (s : hq_S) (y : hq_S), R3 s = some y → hq_R (mm_O xs) (d - 1) mc_X12_sum 0 [some (.ref 174), none] [] s g none y) (E4 : ∀ (s : hq_S) (y : hq_S), R4 s = some y → hq_R (mm_O xs) (d - 1) mc_X12_product 0 [some (.ref 174), none] [] s g none y) (E5 : ∀ (s : hq_S) (y : hq_S), R5 s = some y → hq_R (mm_O xs) (d - 1) mc_X12_primary 0 [some (.ref 174), none] [] s g none y) (h : f_X12_primary_S n R0 R1 R2 R3 R4 R5 s = some y) : hq_R (mm_O xs) d mc_X12_primary 0 [some (.ref 174), none] [] s g none y := by
  unfold f_X12_primary_S at h
  refine hq_p 1 1 [some (.ref 174), none] [.ref 174] (fun n h => rfl) ?_
  refine hq_gf (x := .int (hq_gi s 174 28)) rfl rfl rfl rfl rfl ?_
  by_cases c1 : (hq_gi s 174 28) = 0
  · rw [if_pos c1] at h
    refine hq_izT rfl (hq_c_eq_T c1) ?_
    refine hq_p 1 9 [some (.ref 174), none] [.ref 174] (fun n h => rfl) ?_
    refine hq_bip (40 : Int32) rfl (by decide) ?_
    obtain ⟨y2, hy2, h⟩ := hq_bind h
    refine hq_inv rfl rfl (Nat.le_trans (by decide) hd) rfl rfl (hq_rcv rfl rfl) (f_X12_isSign_run (Nat.le_sub_of_add_le (Nat.le_trans (by decide) hd)) hy2) rfl ?_
    by_cases c3 : y2.1 = 0
    · rw [if_pos c3] at h
      refine hq_izT rfl (hq_c_eq_T c3) ?_
      refine hq_p 1 102 [some (.ref 174), none] [.ref 174] (fun n h => rfl) ?_
      refine hq_gf (x := .int (hq_gi y2.2 174 26)) rfl rfl rfl rfl rfl ?_
      refine hq_p 1 106 [some (.ref 174), none] [.int (2 : Int32), .int (hq_gi y2.2 174 26)] (fun n h => rfl) ?_
      obtain ⟨z4, hz4, h⟩ := hq_bind h
      suffices hT : hq_R (mm_O xs) d mc_X12_primary 114 [some (.ref 174), none] [.int z4] y2.2 g none y from by
        clear h
        have h := hz4
        by_cases c5 : (hq_gi y2.2 174 26) = (2 : Int32)
        · rw [if_pos c5] at h
          refine hq_icF rfl (hq_c_ne_F c5) ?_
          refine hq_p 2 114 [some (.ref 174), none] [.int (1 : Int32)] (fun n h => rfl) ?_
          cases h
          exact hT
        · rw [if_neg c5] at h
          refine hq_icT rfl (hq_c_ne_T c5) ?_
          refine hq_p 1 114 [some (.ref 174), none] [.int (0 : Int32)] (fun n h => rfl) ?_
          cases h
          exact hT
      refine hq_p 2 116 [some (.ref 174), some (.int z4)] [.int z4] (fun n h => rfl) ?_
      obtain ⟨z6, hz6, h⟩ := hq_bind h
      suffices hT : hq_R (mm_O xs) d mc_X12_primary 162 [some (.ref 174), some (.int z4)] [] z6 g none y from by
        clear h
        have h := hz6
        by_cases c7 : z4 = 0
        · rw [if_pos c7] at h
          refine hq_izT rfl (hq_c_eq_T c7) ?_
          refine hq_p 1 138 [some (.ref 174), some (.int z4)] [.int z4] (fun n h => rfl) ?_
          by_cases c8 : z4 = 0
          · rw [if_pos c8] at h
            refine hq_izF rfl (hq_c_ne_F c8) ?_
            refine hq_p 1 142 [some (.ref 174), some (.int z4)] [.ref 174] (fun n h => rfl) ?_
            refine hq_gf (x := .int (hq_gi y2.2 174 26)) rfl rfl rfl rfl rfl ?_
            by_cases c9 : (hq_gi y2.2 174 26) = 0
            · rw [if_pos c9] at h
              refine hq_izF rfl (hq_c_ne_F c9) ?_
              refine hq_p 1 149 [some (.ref 174), some (.int z4)] [.ref 174] (fun n h => rfl) ?_
              refine hq_gf (x := .int (hq_gi y2.2 174 27)) rfl rfl rfl rfl rfl ?_
              refine hq_p 1 154 [some (.ref 174), some (.int z4)] [.int (15 : Int32), .int (hq_gi y2.2 174 27)] (fun n h => rfl) ?_
              by_cases c11 : (hq_gi y2.2 174 27) < (15 : Int32)
              · rw [if_pos c11] at h
                refine hq_icF rfl (hq_c_ge_F c11) ?_
                refine hq_p 2 159 [some (.ref 174), some (.int z4)] [.int (1 : Int32), .ref 174] (fun n h => rfl) ?_
                obtain ⟨s12, hs12, h⟩ := hq_bind h
                refine hq_inv rfl rfl (Nat.le_trans (by decide) hd) rfl rfl (hq_rcv rfl rfl) (f_X12_wrong_run (Nat.le_sub_of_add_le (Nat.le_trans (by decide) hd)) hs12) rfl ?_
                cases h
                exact hT
              · rw [if_neg c11] at h
                refine hq_icT rfl (hq_c_ge_T c11) ?_
                cases h
                exact hT
            · rw [if_neg c9] at h
              refine hq_izT rfl (hq_c_ne_T c9) ?_
              refine hq_p 2 159 [some (.ref 174), some (.int z4)] [.int (1 : Int32), .ref 174] (fun n h => rfl) ?_
              obtain ⟨s10, hs10, h⟩ := hq_bind h
              refine hq_inv rfl rfl (Nat.le_trans (by decide) hd) rfl rfl (hq_rcv rfl rfl) (f_X12_wrong_run (Nat.le_sub_of_add_le (Nat.le_trans (by decide) hd)) hs10) rfl ?_
              cases h
              exact hT
          · rw [if_neg c8] at h
            refine hq_izT rfl (hq_c_ne_T c8) ?_
            cases h
            exact hT
        · rw [if_neg c7] at h
          refine hq_izF rfl (hq_c_eq_F c7) ?_
          refine hq_p 1 120 [some (.ref 174), some (.int z4)] [.ref 174] (fun n h => rfl) ?_
          refine hq_gf (x := .int (hq_gi y2.2 174 27)) rfl rfl rfl rfl rfl ?_
          refine hq_sip (9999 : Int32) rfl (by decide) ?_
          by_cases c13 : (9999 : Int32) < (hq_gi y2.2 174 27)
          · rw [if_pos c13] at h
            refine hq_icF rfl (hq_c_le_F c13) ?_
            refine hq_p 2 131 [some (.ref 174), some (.int z4)] [.int (2 : Int32), .ref 174] (fun n h => rfl) ?_
            obtain ⟨s19, hs19, h⟩ := hq_bind h
            refine hq_inv rfl rfl (Nat.le_trans (by decide) hd) rfl rfl (hq_rcv rfl rfl) (f_X12_wrong_run (Nat.le_sub_of_add_le (Nat.le_trans (by decide) hd)) hs19) rfl ?_
            refine hq_p 1 162 [some (.ref 174), some (.int z4)] [] (fun n h => rfl) ?_
            cases h
            exact hT
          · rw [if_neg c13] at h
            refine hq_icT rfl (hq_c_le_T c13) ?_
            refine hq_p 1 138 [some (.ref 174), some (.int z4)] [.int z4] (fun n h => rfl) ?_
            by_cases c14 : z4 = 0
            · rw [if_pos c14] at h
              refine hq_izF rfl (hq_c_ne_F c14) ?_
              refine hq_p 1 142 [some (.ref 174), some (.int z4)] [.ref 174] (fun n h => rfl) ?_
              refine hq_gf (x := .int (hq_gi y2.2 174 26)) rfl rfl rfl rfl rfl ?_
              by_cases c15 : (hq_gi y2.2 174 26) = 0
              · rw [if_pos c15] at h
                refine hq_izF rfl (hq_c_ne_F c15) ?_
                refine hq_p 1 149 [some (.ref 174), some (.int z4)] [.ref 174] (fun n h => rfl) ?_
                refine hq_gf (x := .int (hq_gi y2.2 174 27)) rfl rfl rfl rfl rfl ?_
                refine hq_p 1 154 [some (.ref 174), some (.int z4)] [.int (15 : Int32), .int (hq_gi y2.2 174 27)] (fun n h => rfl) ?_
                by_cases c17 : (hq_gi y2.2 174 27) < (15 : Int32)
                · rw [if_pos c17] at h
                  refine hq_icF rfl (hq_c_ge_F c17) ?_
                  refine hq_p 2 159 [some (.ref 174), some (.int z4)] [.int (1 : Int32), .ref 174] (fun n h => rfl) ?_
                  obtain ⟨s18, hs18, h⟩ := hq_bind h
                  refine hq_inv rfl rfl (Nat.le_trans (by decide) hd) rfl rfl (hq_rcv rfl rfl) (f_X12_wrong_run (Nat.le_sub_of_add_le (Nat.le_trans (by decide) hd)) hs18) rfl ?_
                  cases h
                  exact hT
                · rw [if_neg c17] at h
                  refine hq_icT rfl (hq_c_ge_T c17) ?_
                  cases h
                  exact hT
              · rw [if_neg c15] at h
                refine hq_izT rfl (hq_c_ne_T c15) ?_
                refine hq_p 2 159 [some (.ref 174), some (.int z4)] [.int (1 : Int32), .ref 174] (fun n h => rfl) ?_
                obtain ⟨s16, hs16, h⟩ := hq_bind h
                refine hq_inv rfl rfl (Nat.le_trans (by decide) hd) rfl rfl (hq_rcv rfl rfl) (f_X12_wrong_run (Nat.le_sub_of_add_le (Nat.le_trans (by decide) hd)) hs16) rfl ?_
                cases h
                exact hT
            · rw [if_neg c14] at h
              refine hq_izT rfl (hq_c_ne_T c14) ?_
              cases h
              exact hT
      refine hq_p 1 163 [some (.ref 174), some (.int z4)] [.ref 174] (fun n h => rfl) ?_
      obtain ⟨s20, hs20, h⟩ := hq_bind h
      refine hq_inv rfl rfl (Nat.le_trans (by decide) hd) rfl rfl (hq_rcv rfl rfl) (f_X12_knot_run (Nat.le_sub_of_add_le (Nat.le_trans (by decide) hd)) hs20) rfl ?_
      refine hq_p 2 168 [some (.ref 174), some (.int z4)] [.int z4, .ref 174] (fun n h => rfl) ?_
      obtain ⟨z21, hz21, h⟩ := hq_bind h
      suffices hT : hq_R (mm_O xs) d mc_X12_primary 176 [some (.ref 174), some (.int z4)] [.int z21, .ref 174] s20 g none y from by
        clear h
        have h := hz21
        by_cases c22 : z4 = 0
        · rw [if_pos c22] at h
          refine hq_izT rfl (hq_c_eq_T c22) ?_
          refine hq_p 1 176 [some (.ref 174), some (.int z4)] [.int (1 : Int32), .ref 174] (fun n h => rfl) ?_
          cases h
          exact hT
        · rw [if_neg c22] at h
          refine hq_izF rfl (hq_c_eq_F c22) ?_
          refine hq_p 2 176 [some (.ref 174), some (.int z4)] [.int (0 : Int32), .ref 174] (fun n h => rfl) ?_
          cases h
          exact hT
      refine hq_p 1 177 [some (.ref 174), some (.int z4)] [.int z4, .int z21, .ref 174] (fun n h => rfl) ?_
      obtain ⟨z23, hz23, h⟩ := hq_bind h
      suffices hT : hq_R (mm_O xs) d mc_X12_primary 194 [some (.ref 174), some (.int z4)] [.int z23, .int z21, .ref 174] s20 g none y from by
        clear h
        have h := hz23
        by_cases c24 : z4 = 0
        · rw [if_pos c24] at h
          refine hq_izT rfl (hq_c_eq_T c24) ?_
          refine hq_p 1 188 [some (.ref 174), some (.int z4)] [.ref 174, .int z21, .ref 174] (fun n h => rfl) ?_
          refine hq_gf (x := .int (hq_gi s20 174 27)) rfl rfl rfl rfl rfl ?_
          refine hq_p 2 194 [some (.ref 174), some (.int z4)] [.int ((hq_gi s20 174 27) - (15 : Int32)), .int z21, .ref 174] (fun n h => rfl) ?_
          cases h
          exact hT
        · rw [if_neg c24] at h
          refine hq_izF rfl (hq_c_eq_F c24) ?_
          refine hq_p 1 181 [some (.ref 174), some (.int z4)] [.ref 174, .int z21, .ref 174] (fun n h => rfl) ?_
          refine hq_gf (x := .int (hq_gi s20 174 27)) rfl rfl rfl rfl rfl ?_
          refine hq_p 1 194 [some (.ref 174), some (.int z4)] [.int (hq_gi s20 174 27), .int z21, .ref 174] (fun n h => rfl) ?_
          cases h
          exact hT
      obtain ⟨s25, hs25, h⟩ := hq_bind h
      refine hq_inv rfl rfl (Nat.le_trans (by decide) hd) rfl rfl (hq_rcv rfl rfl) (f_X12_puts_run (Nat.le_sub_of_add_le (Nat.le_trans (by decide) hd)) hs25) rfl ?_
      refine hq_p 1 198 [some (.ref 174), some (.int z4)] [.ref 174] (fun n h => rfl) ?_
      obtain ⟨s26, hs26, h⟩ := hq_bind h
      refine hq_inv rfl rfl (Nat.le_trans (by decide) hd) rfl rfl (hq_rcv rfl rfl) (f_X12_goOn_run (Nat.le_sub_of_add_le (Nat.le_trans (by decide) hd)) hs26) rfl ?_
      have h := Option.some.inj h
      subst h
      exact ⟨1, rfl⟩
    · rw [if_neg c3] at h
      refine hq_izF rfl (hq_c_eq_F c3) ?_
      refine hq_p 1 18 [some (.ref 174), none] [.ref 174] (fun n h => rfl) ?_
      refine hq_gf (x := .int (hq_gi y2.2 174 32)) rfl rfl rfl rfl rfl ?_
      refine hq_p 1 23 [some (.ref 174), none] [.int (8 : Int32), .int (hq_gi y2.2 174 32)] (fun n h => rfl) ?_
      obtain ⟨z27, hz27, h⟩ := hq_bind h
      suffices hT : hq_R (mm_O xs) d mc_X12_primary 31 [some (.ref 174), none] [] z27 g none y from by
        clear h
        have h := hz27
        by_cases c28 : (hq_gi y2.2 174 32) = (8 : Int32)
        · rw [if_pos c28] at h
          refine hq_icF rfl (hq_c_ne_F c28) ?_
          refine hq_p 2 28 [some (.ref 174), none] [.int (2 : Int32), .ref 174] (fun n h => rfl) ?_
          obtain ⟨s29, hs29, h⟩ := hq_bind h
          refine hq_inv rfl rfl (Nat.le_trans (by decide) hd) rfl rfl (hq_rcv rfl rfl) (f_X12_wrong_run (Nat.le_sub_of_add_le (Nat.le_trans (by decide) hd)) hs29) rfl ?_
          cases h
          exact hT
        · rw [if_neg c28] at h
          refine hq_icT rfl (hq_c_ne_T c28) ?_
          cases h
          exact hT
      refine hq_p 1 32 [some (.ref 174), none] [.ref 174] (fun n h => rfl) ?_
      refine hq_gf (x := .int (hq_gi z27 174 28)) rfl rfl rfl rfl rfl ?_
      by_cases c30 : (hq_gi z27 174 28) = 0
      · rw [if_pos c30] at h
        refine hq_izT rfl (hq_c_eq_T c30) ?_
        refine hq_p 2 41 [some (.ref 174), none] [.ref 174, .ref 174] (fun n h => rfl) ?_
        refine hq_gf (x := .int (hq_gi z27 174 32)) rfl rfl rfl rfl rfl ?_
        refine hq_p 2 46 [some (.ref 174), none] [.int ((hq_gi z27 174 32) + (1 : Int32)), .ref 174] (fun n h => rfl) ?_
        obtain ⟨s31, hs31, h⟩ := hq_bind h
        refine hq_pfi rfl rfl rfl rfl rfl hs31 ?_
        refine hq_p 1 50 [some (.ref 174), none] [.ref 174] (fun n h => rfl) ?_
        obtain ⟨s32, hs32, h⟩ := hq_bind h
        refine hq_inv rfl rfl (Nat.le_trans (by decide) hd) rfl rfl (hq_rcv rfl rfl) (f_X12_token_run (Nat.le_sub_of_add_le (Nat.le_trans (by decide) hd)) hs32) rfl ?_
        refine hq_p 1 54 [some (.ref 174), none] [.ref 174] (fun n h => rfl) ?_
        obtain ⟨s33, hs33, h⟩ := hq_bind h
        refine hq_inv rfl rfl (Nat.le_trans (by decide) hd) rfl rfl (hq_rcv rfl rfl) (E0 _ _ hs33) rfl ?_
        refine hq_p 1 58 [some (.ref 174), none] [.ref 174] (fun n h => rfl) ?_
        refine hq_gf (x := .int (hq_gi s33 174 28)) rfl rfl rfl rfl rfl ?_
        obtain ⟨z34, hz34, h⟩ := hq_bind h
        suffices hT : hq_R (mm_O xs) d mc_X12_primary 78 [some (.ref 174), none] [] z34 g none y from by
          clear h
          have h := hz34
          by_cases c35 : (hq_gi s33 174 28) = 0
          · rw [if_pos c35] at h
            refine hq_izF rfl (hq_c_ne_F c35) ?_
            refine hq_p 1 65 [some (.ref 174), none] [.ref 174] (fun n h => rfl) ?_
            refine hq_bip (41 : Int32) rfl (by decide) ?_
            obtain ⟨y36, hy36, h⟩ := hq_bind h
            refine hq_inv rfl rfl (Nat.le_trans (by decide) hd) rfl rfl (hq_rcv rfl rfl) (f_X12_isSign_run (Nat.le_sub_of_add_le (Nat.le_trans (by decide) hd)) hy36) rfl ?_
            by_cases c37 : y36.1 = 0
            · rw [if_pos c37] at h
              refine hq_izF rfl (hq_c_ne_F c37) ?_
              refine hq_p 2 75 [some (.ref 174), none] [.int (1 : Int32), .ref 174] (fun n h => rfl) ?_
              obtain ⟨s38, hs38, h⟩ := hq_bind h
              refine hq_inv rfl rfl (Nat.le_trans (by decide) hd) rfl rfl (hq_rcv rfl rfl) (f_X12_wrong_run (Nat.le_sub_of_add_le (Nat.le_trans (by decide) hd)) hs38) rfl ?_
              cases h
              exact hT
            · rw [if_neg c37] at h
              refine hq_izT rfl (hq_c_ne_T c37) ?_
              cases h
              exact hT
          · rw [if_neg c35] at h
            refine hq_izT rfl (hq_c_ne_T c35) ?_
            cases h
            exact hT
        refine hq_p 1 79 [some (.ref 174), none] [.ref 174] (fun n h => rfl) ?_
        refine hq_gf (x := .int (hq_gi z34 174 28)) rfl rfl rfl rfl rfl ?_
        by_cases c39 : (hq_gi z34 174 28) = 0
        · rw [if_pos c39] at h
          refine hq_izT rfl (hq_c_eq_T c39) ?_
          refine hq_p 2 88 [some (.ref 174), none] [.ref 174, .ref 174] (fun n h => rfl) ?_
          refine hq_gf (x := .int (hq_gi z34 174 32)) rfl rfl rfl rfl rfl ?_
          refine hq_p 2 93 [some (.ref 174), none] [.int ((hq_gi z34 174 32) - (1 : Int32)), .ref 174] (fun n h => rfl) ?_
          obtain ⟨s40, hs40, h⟩ := hq_bind h
          refine hq_pfi rfl rfl rfl rfl rfl hs40 ?_
          refine hq_p 1 97 [some (.ref 174), none] [.ref 174] (fun n h => rfl) ?_
          obtain ⟨s41, hs41, h⟩ := hq_bind h
          refine hq_inv rfl rfl (Nat.le_trans (by decide) hd) rfl rfl (hq_rcv rfl rfl) (f_X12_token_run (Nat.le_sub_of_add_le (Nat.le_trans (by decide) hd)) hs41) rfl ?_
          have h := Option.some.inj h
          subst h
          exact ⟨1, rfl⟩
        · rw [if_neg c39] at h
          refine hq_izF rfl (hq_c_eq_F c39) ?_
          have h := Option.some.inj h
          subst h
          exact ⟨1, rfl⟩
      · rw [if_neg c30] at h
        refine hq_izF rfl (hq_c_eq_F c30) ?_
        have h := Option.some.inj h
        subst h
        exact ⟨1, rfl⟩
  · rw [if_neg c1] at h
    refine hq_izF rfl (hq_c_eq_F c1) ?_
    have h := Option.some.inj h
    subst h
    exact ⟨1, rfl⟩
def f_X12_expression_G (n : Nat) (k : Nat) : Nat → hq_S → Option hq_S := Nat.rec (fun _ _ => none) (fun _ R c s => match c with
  | 0 => f_X12_expression_S n (R 0) (R 1) (R 2) (R 3) (R 4) (R 5) s
  | 1 => f_X12_conjunction_S n (R 0) (R 1) (R 2) (R 3) (R 4) (R 5) s
  | 2 => f_X12_negation_S n (R 0) (R 1) (R 2) (R 3) (R 4) (R 5) s
  | 3 => f_X12_sum_S n (R 0) (R 1) (R 2) (R 3) (R 4) (R 5) s
  | 4 => f_X12_product_S n (R 0) (R 1) (R 2) (R 3) (R 4) (R 5) s
  | _ => f_X12_primary_S n (R 0) (R 1) (R 2) (R 3) (R 4) (R 5) s) k
theorem f_X12_expression_G_run {xs : List Int32} {n g : Nat} : ∀ (k d : Nat), k + 9 ≤ d → (∀ (s : hq_S) (y : hq_S), f_X12_expression_G n k 0 s = some y → hq_R (mm_O xs) d mc_X12_expression 0 [some (.ref 174)] [] s g none y) ∧ (∀ (s : hq_S) (y : hq_S), f_X12_expression_G n k 1 s = some y → hq_R (mm_O xs) d mc_X12_conjunction 0 [some (.ref 174)] [] s g none y) ∧ (∀ (s : hq_S) (y : hq_S), f_X12_expression_G n k 2 s = some y → hq_R (mm_O xs) d mc_X12_negation 0 [some (.ref 174), none] [] s g none y) ∧ (∀ (s : hq_S) (y : hq_S), f_X12_expression_G n k 3 s = some y → hq_R (mm_O xs) d mc_X12_sum 0 [some (.ref 174), none] [] s g none y) ∧ (∀ (s : hq_S) (y : hq_S), f_X12_expression_G n k 4 s = some y → hq_R (mm_O xs) d mc_X12_product 0 [some (.ref 174), none] [] s g none y) ∧ (∀ (s : hq_S) (y : hq_S), f_X12_expression_G n k 5 s = some y → hq_R (mm_O xs) d mc_X12_primary 0 [some (.ref 174), none] [] s g none y) := by
  intro k
  induction k with
  | zero =>
    intro d hd
    refine ⟨?_, ?_, ?_, ?_, ?_, ?_⟩
    all_goals
      intros
      next h => cases h
  | succ k ih =>
    intro d hd
    have I := ih (d - 1) (by omega)
    obtain ⟨I0, I1, I2, I3, I4, I5⟩ := I
    refine ⟨?_, ?_, ?_, ?_, ?_, ?_⟩
    · intro s y h
      exact f_X12_expression_S_run (by omega) I0 I1 I2 I3 I4 I5 h
    · intro s y h
      exact f_X12_conjunction_S_run (by omega) I0 I1 I2 I3 I4 I5 h
    · intro s y h
      exact f_X12_negation_S_run (by omega) I0 I1 I2 I3 I4 I5 h
    · intro s y h
      exact f_X12_sum_S_run (by omega) I0 I1 I2 I3 I4 I5 h
    · intro s y h
      exact f_X12_product_S_run (by omega) I0 I1 I2 I3 I4 I5 h
    · intro s y h
      exact f_X12_primary_S_run (by omega) I0 I1 I2 I3 I4 I5 h
def f_X12_expression (n : Nat) (s : hq_S) : Option hq_S := f_X12_expression_G n 200 0 s
theorem f_X12_expression_run {xs : List Int32} {n d g : Nat} {s : hq_S} {y : hq_S} (hd : 209 ≤ d) (h : f_X12_expression n s = some y) : hq_R (mm_O xs) d mc_X12_expression 0 [some (.ref 174)] [] s g none y := (f_X12_expression_G_run 200 d hd).1 s y h
def f_X12_conjunction (n : Nat) (s : hq_S) : Option hq_S := f_X12_expression_G n 200 1 s
theorem f_X12_conjunction_run {xs : List Int32} {n d g : Nat} {s : hq_S} {y : hq_S} (hd : 209 ≤ d) (h : f_X12_conjunction n s = some y) : hq_R (mm_O xs) d mc_X12_conjunction 0 [some (.ref 174)] [] s g none y := (f_X12_expression_G_run 200 d hd).2.1 s y h
def f_X12_negation (n : Nat) (s : hq_S) : Option hq_S := f_X12_expression_G n 200 2 s
theorem f_X12_negation_run {xs : List Int32} {n d g : Nat} {s : hq_S} {y : hq_S} (hd : 209 ≤ d) (h : f_X12_negation n s = some y) : hq_R (mm_O xs) d mc_X12_negation 0 [some (.ref 174), none] [] s g none y := (f_X12_expression_G_run 200 d hd).2.2.1 s y h
def f_X12_sum (n : Nat) (s : hq_S) : Option hq_S := f_X12_expression_G n 200 3 s
theorem f_X12_sum_run {xs : List Int32} {n d g : Nat} {s : hq_S} {y : hq_S} (hd : 209 ≤ d) (h : f_X12_sum n s = some y) : hq_R (mm_O xs) d mc_X12_sum 0 [some (.ref 174), none] [] s g none y := (f_X12_expression_G_run 200 d hd).2.2.2.1 s y h
def f_X12_product (n : Nat) (s : hq_S) : Option hq_S := f_X12_expression_G n 200 4 s
theorem f_X12_product_run {xs : List Int32} {n d g : Nat} {s : hq_S} {y : hq_S} (hd : 209 ≤ d) (h : f_X12_product n s = some y) : hq_R (mm_O xs) d mc_X12_product 0 [some (.ref 174), none] [] s g none y := (f_X12_expression_G_run 200 d hd).2.2.2.2.1 s y h
def f_X12_primary (n : Nat) (s : hq_S) : Option hq_S := f_X12_expression_G n 200 5 s
theorem f_X12_primary_run {xs : List Int32} {n d g : Nat} {s : hq_S} {y : hq_S} (hd : 209 ≤ d) (h : f_X12_primary n s = some y) : hq_R (mm_O xs) d mc_X12_primary 0 [some (.ref 174), none] [] s g none y := (f_X12_expression_G_run 200 d hd).2.2.2.2.2 s y h
def f_X12_lawLine (n : Nat) (s : hq_S) : Option hq_S := (if (hq_gi s 174 26) = 0 then if (hq_gi s 174 27) < (9 : Int32) then (f_X12_wrong n (1 : Int32) s).bind fun s5 => some s5 else if (11 : Int32) < (hq_gi s 174 27) then (f_X12_wrong n (1 : Int32) s).bind fun s7 => some s7 else some s else (f_X12_wrong n (1 : Int32) s).bind fun s3 => some s3).bind fun z1 => (if (hq_gi z1 174 28) = 0 then if (((hq_gi z1 174 21) >>> (((16 : Int32) + ((hq_gi z1 174 27) - (9 : Int32))) &&& 31)) &&& (1 : Int32)) = (1 : Int32) then (f_X12_wrong n (3 : Int32) z1).bind fun s11 => some s11 else some z1 else some z1).bind fun z8 => if (hq_gi z8 174 28) = 0 then (hq_pi z8 174 21 0 ((hq_gi z8 174 21) ||| ((1 : Int32) <<< (((16 : Int32) + ((hq_gi z1 174 27) - (9 : Int32))) &&& 31)))).bind fun s13 => (f_X12_token n s13).bind fun s14 => (f_X12_fresher n (6 : Int32) s14).bind fun y15 => (hq_st y15.2 190 6 ((3 : Int32) + ((hq_gi z1 174 27) - (9 : Int32))) y15.1).bind fun s16 => (f_X12_expression n s16).bind fun s17 => (f_X12_fresher n (6 : Int32) s17).bind fun y18 => (hq_st y18.2 191 6 ((3 : Int32) + ((hq_gi z1 174 27) - (9 : Int32))) y18.1).bind fun s19 => some s19 else some z8
theorem f_X12_lawLine_run {xs : List Int32} {n d g : Nat} {s : hq_S} {y : hq_S} (hd : 210 ≤ d) (h : f_X12_lawLine n s = some y) : hq_R (mm_O xs) d mc_X12_lawLine 0 [some (.ref 174), none] [] s g none y := by
  unfold f_X12_lawLine at h
  refine hq_p 1 1 [some (.ref 174), none] [.ref 174] (fun n h => rfl) ?_
  refine hq_gf (x := .int (hq_gi s 174 26)) rfl rfl rfl rfl rfl ?_
  obtain ⟨z1, hz1, h⟩ := hq_bind h
  suffices hT : hq_R (mm_O xs) d mc_X12_lawLine 30 [some (.ref 174), none] [] z1 g none y from by
    clear h
    have h := hz1
    by_cases c2 : (hq_gi s 174 26) = 0
    · rw [if_pos c2] at h
      refine hq_izF rfl (hq_c_ne_F c2) ?_
      refine hq_p 1 8 [some (.ref 174), none] [.ref 174] (fun n h => rfl) ?_
      refine hq_gf (x := .int (hq_gi s 174 27)) rfl rfl rfl rfl rfl ?_
      refine hq_p 1 13 [some (.ref 174), none] [.int (9 : Int32), .int (hq_gi s 174 27)] (fun n h => rfl) ?_
      by_cases c4 : (hq_gi s 174 27) < (9 : Int32)
      · rw [if_pos c4] at h
        refine hq_icT rfl (hq_c_lt_T c4) ?_
        refine hq_p 2 27 [some (.ref 174), none] [.int (1 : Int32), .ref 174] (fun n h => rfl) ?_
        obtain ⟨s5, hs5, h⟩ := hq_bind h
        refine hq_inv rfl rfl (Nat.le_trans (by decide) hd) rfl rfl (hq_rcv rfl rfl) (f_X12_wrong_run (Nat.le_sub_of_add_le (Nat.le_trans (by decide) hd)) hs5) rfl ?_
        cases h
        exact hT
      · rw [if_neg c4] at h
        refine hq_icF rfl (hq_c_lt_F c4) ?_
        refine hq_p 1 17 [some (.ref 174), none] [.ref 174] (fun n h => rfl) ?_
        refine hq_gf (x := .int (hq_gi s 174 27)) rfl rfl rfl rfl rfl ?_
        refine hq_p 1 22 [some (.ref 174), none] [.int (11 : Int32), .int (hq_gi s 174 27)] (fun n h => rfl) ?_
        by_cases c6 : (11 : Int32) < (hq_gi s 174 27)
        · rw [if_pos c6] at h
          refine hq_icF rfl (hq_c_le_F c6) ?_
          refine hq_p 2 27 [some (.ref 174), none] [.int (1 : Int32), .ref 174] (fun n h => rfl) ?_
          obtain ⟨s7, hs7, h⟩ := hq_bind h
          refine hq_inv rfl rfl (Nat.le_trans (by decide) hd) rfl rfl (hq_rcv rfl rfl) (f_X12_wrong_run (Nat.le_sub_of_add_le (Nat.le_trans (by decide) hd)) hs7) rfl ?_
          cases h
          exact hT
        · rw [if_neg c6] at h
          refine hq_icT rfl (hq_c_le_T c6) ?_
          cases h
          exact hT
    · rw [if_neg c2] at h
      refine hq_izT rfl (hq_c_ne_T c2) ?_
      refine hq_p 2 27 [some (.ref 174), none] [.int (1 : Int32), .ref 174] (fun n h => rfl) ?_
      obtain ⟨s3, hs3, h⟩ := hq_bind h
      refine hq_inv rfl rfl (Nat.le_trans (by decide) hd) rfl rfl (hq_rcv rfl rfl) (f_X12_wrong_run (Nat.le_sub_of_add_le (Nat.le_trans (by decide) hd)) hs3) rfl ?_
      cases h
      exact hT
  refine hq_p 1 31 [some (.ref 174), none] [.ref 174] (fun n h => rfl) ?_
  refine hq_gf (x := .int (hq_gi z1 174 27)) rfl rfl rfl rfl rfl ?_
  refine hq_p 4 39 [some (.ref 174), some (.int ((hq_gi z1 174 27) - (9 : Int32)))] [.ref 174] (fun n h => rfl) ?_
  refine hq_gf (x := .int (hq_gi z1 174 28)) rfl rfl rfl rfl rfl ?_
  obtain ⟨z8, hz8, h⟩ := hq_bind h
  suffices hT : hq_R (mm_O xs) d mc_X12_lawLine 65 [some (.ref 174), some (.int ((hq_gi z1 174 27) - (9 : Int32)))] [] z8 g none y from by
    clear h
    have h := hz8
    by_cases c9 : (hq_gi z1 174 28) = 0
    · rw [if_pos c9] at h
      refine hq_izF rfl (hq_c_ne_F c9) ?_
      refine hq_p 1 46 [some (.ref 174), some (.int ((hq_gi z1 174 27) - (9 : Int32)))] [.ref 174] (fun n h => rfl) ?_
      refine hq_gf (x := .int (hq_gi z1 174 21)) rfl rfl rfl rfl rfl ?_
      refine hq_p 7 57 [some (.ref 174), some (.int ((hq_gi z1 174 27) - (9 : Int32)))] [.int (1 : Int32), .int (((hq_gi z1 174 21) >>> (((16 : Int32) + ((hq_gi z1 174 27) - (9 : Int32))) &&& 31)) &&& (1 : Int32))] (fun n h => rfl) ?_
      by_cases c10 : (((hq_gi z1 174 21) >>> (((16 : Int32) + ((hq_gi z1 174 27) - (9 : Int32))) &&& 31)) &&& (1 : Int32)) = (1 : Int32)
      · rw [if_pos c10] at h
        refine hq_icF rfl (hq_c_ne_F c10) ?_
        refine hq_p 2 62 [some (.ref 174), some (.int ((hq_gi z1 174 27) - (9 : Int32)))] [.int (3 : Int32), .ref 174] (fun n h => rfl) ?_
        obtain ⟨s11, hs11, h⟩ := hq_bind h
        refine hq_inv rfl rfl (Nat.le_trans (by decide) hd) rfl rfl (hq_rcv rfl rfl) (f_X12_wrong_run (Nat.le_sub_of_add_le (Nat.le_trans (by decide) hd)) hs11) rfl ?_
        cases h
        exact hT
      · rw [if_neg c10] at h
        refine hq_icT rfl (hq_c_ne_T c10) ?_
        cases h
        exact hT
    · rw [if_neg c9] at h
      refine hq_izT rfl (hq_c_ne_T c9) ?_
      cases h
      exact hT
  refine hq_p 1 66 [some (.ref 174), some (.int ((hq_gi z1 174 27) - (9 : Int32)))] [.ref 174] (fun n h => rfl) ?_
  refine hq_gf (x := .int (hq_gi z8 174 28)) rfl rfl rfl rfl rfl ?_
  by_cases c12 : (hq_gi z8 174 28) = 0
  · rw [if_pos c12] at h
    refine hq_izT rfl (hq_c_eq_T c12) ?_
    refine hq_p 2 75 [some (.ref 174), some (.int ((hq_gi z1 174 27) - (9 : Int32)))] [.ref 174, .ref 174] (fun n h => rfl) ?_
    refine hq_gf (x := .int (hq_gi z8 174 21)) rfl rfl rfl rfl rfl ?_
    refine hq_p 6 85 [some (.ref 174), some (.int ((hq_gi z1 174 27) - (9 : Int32)))] [.int ((hq_gi z8 174 21) ||| ((1 : Int32) <<< (((16 : Int32) + ((hq_gi z1 174 27) - (9 : Int32))) &&& 31))), .ref 174] (fun n h => rfl) ?_
    obtain ⟨s13, hs13, h⟩ := hq_bind h
    refine hq_pfi rfl rfl rfl rfl rfl hs13 ?_
    refine hq_p 1 89 [some (.ref 174), some (.int ((hq_gi z1 174 27) - (9 : Int32)))] [.ref 174] (fun n h => rfl) ?_
    obtain ⟨s14, hs14, h⟩ := hq_bind h
    refine hq_inv rfl rfl (Nat.le_trans (by decide) hd) rfl rfl (hq_rcv rfl rfl) (f_X12_token_run (Nat.le_sub_of_add_le (Nat.le_trans (by decide) hd)) hs14) rfl ?_
    refine hq_p 1 93 [some (.ref 174), some (.int ((hq_gi z1 174 27) - (9 : Int32)))] [.ref 174] (fun n h => rfl) ?_
    refine hq_gf (x := .ref 190) rfl rfl rfl rfl rfl ?_
    refine hq_p 5 102 [some (.ref 174), some (.int ((hq_gi z1 174 27) - (9 : Int32)))] [.int (6 : Int32), .ref 174, .int ((3 : Int32) + ((hq_gi z1 174 27) - (9 : Int32))), .ref 190] (fun n h => rfl) ?_
    obtain ⟨y15, hy15, h⟩ := hq_bind h
    refine hq_inv rfl rfl (Nat.le_trans (by decide) hd) rfl rfl (hq_rcv rfl rfl) (f_X12_fresher_run (Nat.le_sub_of_add_le (Nat.le_trans (by decide) hd)) hy15) rfl ?_
    obtain ⟨s16, hs16, h⟩ := hq_bind h
    refine hq_iastore rfl rfl List.length_replicate hs16 ?_
    refine hq_p 1 107 [some (.ref 174), some (.int ((hq_gi z1 174 27) - (9 : Int32)))] [.ref 174] (fun n h => rfl) ?_
    obtain ⟨s17, hs17, h⟩ := hq_bind h
    refine hq_inv rfl rfl (Nat.le_trans (by decide) hd) rfl rfl (hq_rcv rfl rfl) (f_X12_expression_run (Nat.le_sub_of_add_le (Nat.le_trans (by decide) hd)) hs17) rfl ?_
    refine hq_p 1 111 [some (.ref 174), some (.int ((hq_gi z1 174 27) - (9 : Int32)))] [.ref 174] (fun n h => rfl) ?_
    refine hq_gf (x := .ref 191) rfl rfl rfl rfl rfl ?_
    refine hq_p 5 120 [some (.ref 174), some (.int ((hq_gi z1 174 27) - (9 : Int32)))] [.int (6 : Int32), .ref 174, .int ((3 : Int32) + ((hq_gi z1 174 27) - (9 : Int32))), .ref 191] (fun n h => rfl) ?_
    obtain ⟨y18, hy18, h⟩ := hq_bind h
    refine hq_inv rfl rfl (Nat.le_trans (by decide) hd) rfl rfl (hq_rcv rfl rfl) (f_X12_fresher_run (Nat.le_sub_of_add_le (Nat.le_trans (by decide) hd)) hy18) rfl ?_
    obtain ⟨s19, hs19, h⟩ := hq_bind h
    refine hq_iastore rfl rfl List.length_replicate hs19 ?_
    have h := Option.some.inj h
    subst h
    exact ⟨1, rfl⟩
  · rw [if_neg c12] at h
    refine hq_izF rfl (hq_c_eq_F c12) ?_
    have h := Option.some.inj h
    subst h
    exact ⟨1, rfl⟩
def f_X12_line_J16 (n : Nat) (s : hq_S) : Option hq_S := (f_X12_wrong n (1 : Int32) s).bind fun s2 => some s2
theorem f_X12_line_J16_run {xs : List Int32} {n d g : Nat} {s : hq_S} {y : hq_S} (hd : 211 ≤ d) (h : f_X12_line_J16 n s = some y) : hq_R (mm_O xs) d mc_X12_line 16 [some (.ref 174), none, none, none, none] [] s g none y := by
  unfold f_X12_line_J16 at h
  refine hq_p 2 18 [some (.ref 174), none, none, none, none] [.int (1 : Int32), .ref 174] (fun n h => rfl) ?_
  obtain ⟨s2, hs2, h⟩ := hq_bind h
  refine hq_inv rfl rfl (Nat.le_trans (by decide) hd) rfl rfl (hq_rcv rfl rfl) (f_X12_wrong_run (Nat.le_sub_of_add_le (Nat.le_trans (by decide) hd)) hs2) rfl ?_
  have h := Option.some.inj h
  subst h
  exact ⟨1, rfl⟩
def f_X12_line_J404 (n : Nat) (a1 : Int32) (s : hq_S) : Option hq_S := if (hq_gi s 174 28) = 0 then (f_X12_isSign n (59 : Int32) s).bind fun y29 => (if y29.1 = 0 then (f_X12_wrong n (1 : Int32) y29.2).bind fun s33 => some s33 else (f_X12_token n y29.2).bind fun s32 => some s32).bind fun z30 => (hq_pi z30 174 22 0 ((hq_gi z30 174 22) + (1 : Int32))).bind fun s34 => some s34 else some s
theorem f_X12_line_J404_run {xs : List Int32} {n d g : Nat} {a1 : Int32} {o2 : Option Value} {o3 : Option Value} {o4 : Option Value} {s : hq_S} {y : hq_S} (hd : 211 ≤ d) (h : f_X12_line_J404 n a1 s = some y) : hq_R (mm_O xs) d mc_X12_line 404 [some (.ref 174), some (.int a1), o2, o3, o4] [] s g none y := by
  unfold f_X12_line_J404 at h
  refine hq_p 1 405 [some (.ref 174), some (.int a1), o2, o3, o4] [.ref 174] (fun n h => rfl) ?_
  refine hq_gf (x := .int (hq_gi s 174 28)) rfl rfl rfl rfl rfl ?_
  by_cases c28 : (hq_gi s 174 28) = 0
  · rw [if_pos c28] at h
    refine hq_izT rfl (hq_c_eq_T c28) ?_
    refine hq_p 1 413 [some (.ref 174), some (.int a1), o2, o3, o4] [.ref 174] (fun n h => rfl) ?_
    refine hq_bip (59 : Int32) rfl (by decide) ?_
    obtain ⟨y29, hy29, h⟩ := hq_bind h
    refine hq_inv rfl rfl (Nat.le_trans (by decide) hd) rfl rfl (hq_rcv rfl rfl) (f_X12_isSign_run (Nat.le_sub_of_add_le (Nat.le_trans (by decide) hd)) hy29) rfl ?_
    obtain ⟨z30, hz30, h⟩ := hq_bind h
    suffices hT : hq_R (mm_O xs) d mc_X12_line 433 [some (.ref 174), some (.int a1), o2, o3, o4] [] z30 g none y from by
      clear h
      have h := hz30
      by_cases c31 : y29.1 = 0
      · rw [if_pos c31] at h
        refine hq_izF rfl (hq_c_ne_F c31) ?_
        refine hq_p 2 423 [some (.ref 174), some (.int a1), o2, o3, o4] [.int (1 : Int32), .ref 174] (fun n h => rfl) ?_
        obtain ⟨s33, hs33, h⟩ := hq_bind h
        refine hq_inv rfl rfl (Nat.le_trans (by decide) hd) rfl rfl (hq_rcv rfl rfl) (f_X12_wrong_run (Nat.le_sub_of_add_le (Nat.le_trans (by decide) hd)) hs33) rfl ?_
        refine hq_p 1 433 [some (.ref 174), some (.int a1), o2, o3, o4] [] (fun n h => rfl) ?_
        cases h
        exact hT
      · rw [if_neg c31] at h
        refine hq_izT rfl (hq_c_ne_T c31) ?_
        refine hq_p 1 430 [some (.ref 174), some (.int a1), o2, o3, o4] [.ref 174] (fun n h => rfl) ?_
        obtain ⟨s32, hs32, h⟩ := hq_bind h
        refine hq_inv rfl rfl (Nat.le_trans (by decide) hd) rfl rfl (hq_rcv rfl rfl) (f_X12_token_run (Nat.le_sub_of_add_le (Nat.le_trans (by decide) hd)) hs32) rfl ?_
        cases h
        exact hT
    refine hq_p 2 435 [some (.ref 174), some (.int a1), o2, o3, o4] [.ref 174, .ref 174] (fun n h => rfl) ?_
    refine hq_gf (x := .int (hq_gi z30 174 22)) rfl rfl rfl rfl rfl ?_
    refine hq_p 2 440 [some (.ref 174), some (.int a1), o2, o3, o4] [.int ((hq_gi z30 174 22) + (1 : Int32)), .ref 174] (fun n h => rfl) ?_
    obtain ⟨s34, hs34, h⟩ := hq_bind h
    refine hq_pfi rfl rfl rfl rfl rfl hs34 ?_
    have h := Option.some.inj h
    subst h
    exact ⟨1, rfl⟩
  · rw [if_neg c28] at h
    refine hq_izF rfl (hq_c_eq_F c28) ?_
    have h := Option.some.inj h
    subst h
    exact ⟨1, rfl⟩
def f_X12_line (n : Nat) (s : hq_S) : Option hq_S := if (hq_gi s 174 26) = 0 then if (8 : Int32) < (hq_gi s 174 27) then f_X12_line_J16 n s else (f_X12_isFull n (hq_gi s 174 27) s).bind fun y4 => (if y4.1 = 0 then if (hq_gi s 174 27) = (6 : Int32) then if (((hq_gi y4.2 174 21) >>> ((hq_gi s 174 27) &&& 31)) &&& (1 : Int32)) = (1 : Int32) then (f_X12_wrong n (3 : Int32) y4.2).bind fun s9 => some s9 else some y4.2 else if (hq_gi s 174 27) = (7 : Int32) then if (((hq_gi y4.2 174 21) >>> ((hq_gi s 174 27) &&& 31)) &&& (1 : Int32)) = (1 : Int32) then (f_X12_wrong n (3 : Int32) y4.2).bind fun s12 => some s12 else some y4.2 else some y4.2 else (f_X12_wrong n (2 : Int32) y4.2).bind fun s13 => some s13).bind fun z5 => if (hq_gi z5 174 28) = 0 then (hq_pi z5 174 21 0 ((hq_gi z5 174 21) ||| ((1 : Int32) <<< ((hq_gi s 174 27) &&& 31)))).bind fun s15 => (f_X12_token n s15).bind fun s16 => if (hq_gi s 174 27) = (0 : Int32) then (f_X12_fresher n (0 : Int32) s16).bind fun y18 => (f_X12_fresher n (0 : Int32) y18.2).bind fun y19 => (f_X12_fresh n 177 (10 : Int32) y19.1 y19.2).bind fun y20 => (hq_st y20.2 177 20 ((10 : Int32) + y18.1) y20.1).bind fun s21 => (f_X12_numeral n (0 : Int32) (9 : Int32) s21).bind fun y22 => (hq_st y22.2 178 20 ((10 : Int32) + y18.1) y22.1).bind fun s23 => (f_X12_numeral n (0 : Int32) (999 : Int32) s23).bind fun y24 => (hq_st y24.2 179 20 ((10 : Int32) + y18.1) y24.1).bind fun s25 => (f_X12_fresher n (0 : Int32) s25).bind fun y26 => (f_X12_reads n (0 : Int32) (y26.1 + (1 : Int32)) y26.2).bind fun s27 => f_X12_line_J404 n (hq_gi s 174 27) s27 else if (hq_gi s 174 27) = (1 : Int32) then (if (hq_gi s 174 27) = (2 : Int32) then some (1 : Int32) else some (0 : Int32)).bind fun z36 => (f_X12_laneLine n z36 s16).bind fun s38 => f_X12_line_J404 n (hq_gi s 174 27) s38 else if (hq_gi s 174 27) = (2 : Int32) then (if (hq_gi s 174 27) = (2 : Int32) then some (1 : Int32) else some (0 : Int32)).bind fun z40 => (f_X12_laneLine n z40 s16).bind fun s42 => f_X12_line_J404 n (hq_gi s 174 27) s42 else if (hq_gi s 174 27) = (3 : Int32) then (f_X12_fresher n (2 : Int32) s16).bind fun y44 => (f_X12_fresher n (2 : Int32) y44.2).bind fun y45 => (f_X12_fresh n 183 (3 : Int32) y45.1 y45.2).bind fun y46 => (hq_st y46.2 183 6 ((3 : Int32) + y44.1) y46.1).bind fun s47 => (f_X12_cornerAhead n s47).bind fun y48 => (hq_st y48.2 184 6 ((3 : Int32) + y44.1) y48.1).bind fun s49 => (hq_st s49 185 6 ((3 : Int32) + y44.1) (0 : Int32)).bind fun s50 => (f_X12_fresher n (2 : Int32) s50).bind fun y51 => (f_X12_reads n (2 : Int32) (y51.1 + (1 : Int32)) y51.2).bind fun s52 => f_X12_line_J404 n (hq_gi s 174 27) s52 else if (hq_gi s 174 27) = (4 : Int32) then (f_X12_beatLine n s16).bind fun s54 => f_X12_line_J404 n (hq_gi s 174 27) s54 else if (hq_gi s 174 27) = (5 : Int32) then (f_X12_fresher n (3 : Int32) s16).bind fun y56 => (f_X12_fresher n (3 : Int32) y56.2).bind fun y57 => (f_X12_fresh n 187 (4 : Int32) y57.1 y57.2).bind fun y58 => (hq_st y58.2 187 8 ((4 : Int32) + y56.1) y58.1).bind fun s59 => (f_X12_cornerAhead n s59).bind fun y60 => (hq_st y60.2 188 8 ((4 : Int32) + y56.1) y60.1).bind fun s61 => (f_X12_numeral n (0 : Int32) (9 : Int32) s61).bind fun y62 => (hq_st y62.2 189 8 ((4 : Int32) + y56.1) y62.1).bind fun s63 => (f_X12_fresher n (3 : Int32) s63).bind fun y64 => (f_X12_reads n (3 : Int32) (y64.1 + (1 : Int32)) y64.2).bind fun s65 => f_X12_line_J404 n (hq_gi s 174 27) s65 else if (hq_gi s 174 27) = (6 : Int32) then (f_X12_numeral n (0 : Int32) (100 : Int32) s16).bind fun y67 => (f_X12_reads n (4 : Int32) y67.1 y67.2).bind fun s68 => f_X12_line_J404 n (hq_gi s 174 27) s68 else if (hq_gi s 174 27) = (7 : Int32) then (f_X12_numeral n (0 : Int32) (99999 : Int32) s16).bind fun y70 => (f_X12_reads n (5 : Int32) y70.1 y70.2).bind fun s71 => f_X12_line_J404 n (hq_gi s 174 27) s71 else (f_X12_lawLine n s16).bind fun s72 => f_X12_line_J404 n (hq_gi s 174 27) s72 else some z5 else f_X12_line_J16 n s
theorem f_X12_line_run {xs : List Int32} {n d g : Nat} {s : hq_S} {y : hq_S} (hd : 211 ≤ d) (h : f_X12_line n s = some y) : hq_R (mm_O xs) d mc_X12_line 0 [some (.ref 174), none, none, none, none] [] s g none y := by
  unfold f_X12_line at h
  refine hq_p 1 1 [some (.ref 174), none, none, none, none] [.ref 174] (fun n h => rfl) ?_
  refine hq_gf (x := .int (hq_gi s 174 26)) rfl rfl rfl rfl rfl ?_
  by_cases c1 : (hq_gi s 174 26) = 0
  · rw [if_pos c1] at h
    refine hq_izF rfl (hq_c_ne_F c1) ?_
    refine hq_p 1 8 [some (.ref 174), none, none, none, none] [.ref 174] (fun n h => rfl) ?_
    refine hq_gf (x := .int (hq_gi s 174 27)) rfl rfl rfl rfl rfl ?_
    refine hq_p 1 13 [some (.ref 174), none, none, none, none] [.int (8 : Int32), .int (hq_gi s 174 27)] (fun n h => rfl) ?_
    by_cases c3 : (8 : Int32) < (hq_gi s 174 27)
    · rw [if_pos c3] at h
      refine hq_icF rfl (hq_c_le_F c3) ?_
      exact f_X12_line_J16_run hd h
    · rw [if_neg c3] at h
      refine hq_icT rfl (hq_c_le_T c3) ?_
      refine hq_p 1 23 [some (.ref 174), none, none, none, none] [.ref 174] (fun n h => rfl) ?_
      refine hq_gf (x := .int (hq_gi s 174 27)) rfl rfl rfl rfl rfl ?_
      refine hq_p 3 29 [some (.ref 174), some (.int (hq_gi s 174 27)), none, none, none] [.int (hq_gi s 174 27), .ref 174] (fun n h => rfl) ?_
      obtain ⟨y4, hy4, h⟩ := hq_bind h
      refine hq_inv rfl rfl (Nat.le_trans (by decide) hd) rfl rfl (hq_rcv rfl rfl) (f_X12_isFull_run (Nat.le_sub_of_add_le (Nat.le_trans (by decide) hd)) hy4) rfl ?_
      obtain ⟨z5, hz5, h⟩ := hq_bind h
      suffices hT : hq_R (mm_O xs) d mc_X12_line 72 [some (.ref 174), some (.int (hq_gi s 174 27)), none, none, none] [] z5 g none y from by
        clear h
        have h := hz5
        by_cases c6 : y4.1 = 0
        · rw [if_pos c6] at h
          refine hq_izT rfl (hq_c_eq_T c6) ?_
          refine hq_p 2 46 [some (.ref 174), some (.int (hq_gi s 174 27)), none, none, none] [.int (6 : Int32), .int (hq_gi s 174 27)] (fun n h => rfl) ?_
          by_cases c7 : (hq_gi s 174 27) = (6 : Int32)
          · rw [if_pos c7] at h
            refine hq_icT rfl (hq_c_eq_T c7) ?_
            refine hq_p 1 56 [some (.ref 174), some (.int (hq_gi s 174 27)), none, none, none] [.ref 174] (fun n h => rfl) ?_
            refine hq_gf (x := .int (hq_gi y4.2 174 21)) rfl rfl rfl rfl rfl ?_
            refine hq_p 5 64 [some (.ref 174), some (.int (hq_gi s 174 27)), none, none, none] [.int (1 : Int32), .int (((hq_gi y4.2 174 21) >>> ((hq_gi s 174 27) &&& 31)) &&& (1 : Int32))] (fun n h => rfl) ?_
            by_cases c8 : (((hq_gi y4.2 174 21) >>> ((hq_gi s 174 27) &&& 31)) &&& (1 : Int32)) = (1 : Int32)
            · rw [if_pos c8] at h
              refine hq_icF rfl (hq_c_ne_F c8) ?_
              refine hq_p 2 69 [some (.ref 174), some (.int (hq_gi s 174 27)), none, none, none] [.int (3 : Int32), .ref 174] (fun n h => rfl) ?_
              obtain ⟨s9, hs9, h⟩ := hq_bind h
              refine hq_inv rfl rfl (Nat.le_trans (by decide) hd) rfl rfl (hq_rcv rfl rfl) (f_X12_wrong_run (Nat.le_sub_of_add_le (Nat.le_trans (by decide) hd)) hs9) rfl ?_
              cases h
              exact hT
            · rw [if_neg c8] at h
              refine hq_icT rfl (hq_c_ne_T c8) ?_
              cases h
              exact hT
          · rw [if_neg c7] at h
            refine hq_icF rfl (hq_c_eq_F c7) ?_
            refine hq_p 2 52 [some (.ref 174), some (.int (hq_gi s 174 27)), none, none, none] [.int (7 : Int32), .int (hq_gi s 174 27)] (fun n h => rfl) ?_
            by_cases c10 : (hq_gi s 174 27) = (7 : Int32)
            · rw [if_pos c10] at h
              refine hq_icF rfl (hq_c_ne_F c10) ?_
              refine hq_p 1 56 [some (.ref 174), some (.int (hq_gi s 174 27)), none, none, none] [.ref 174] (fun n h => rfl) ?_
              refine hq_gf (x := .int (hq_gi y4.2 174 21)) rfl rfl rfl rfl rfl ?_
              refine hq_p 5 64 [some (.ref 174), some (.int (hq_gi s 174 27)), none, none, none] [.int (1 : Int32), .int (((hq_gi y4.2 174 21) >>> ((hq_gi s 174 27) &&& 31)) &&& (1 : Int32))] (fun n h => rfl) ?_
              by_cases c11 : (((hq_gi y4.2 174 21) >>> ((hq_gi s 174 27) &&& 31)) &&& (1 : Int32)) = (1 : Int32)
              · rw [if_pos c11] at h
                refine hq_icF rfl (hq_c_ne_F c11) ?_
                refine hq_p 2 69 [some (.ref 174), some (.int (hq_gi s 174 27)), none, none, none] [.int (3 : Int32), .ref 174] (fun n h => rfl) ?_
                obtain ⟨s12, hs12, h⟩ := hq_bind h
                refine hq_inv rfl rfl (Nat.le_trans (by decide) hd) rfl rfl (hq_rcv rfl rfl) (f_X12_wrong_run (Nat.le_sub_of_add_le (Nat.le_trans (by decide) hd)) hs12) rfl ?_
                cases h
                exact hT
              · rw [if_neg c11] at h
                refine hq_icT rfl (hq_c_ne_T c11) ?_
                cases h
                exact hT
            · rw [if_neg c10] at h
              refine hq_icT rfl (hq_c_ne_T c10) ?_
              cases h
              exact hT
        · rw [if_neg c6] at h
          refine hq_izF rfl (hq_c_eq_F c6) ?_
          refine hq_p 2 37 [some (.ref 174), some (.int (hq_gi s 174 27)), none, none, none] [.int (2 : Int32), .ref 174] (fun n h => rfl) ?_
          obtain ⟨s13, hs13, h⟩ := hq_bind h
          refine hq_inv rfl rfl (Nat.le_trans (by decide) hd) rfl rfl (hq_rcv rfl rfl) (f_X12_wrong_run (Nat.le_sub_of_add_le (Nat.le_trans (by decide) hd)) hs13) rfl ?_
          refine hq_p 1 72 [some (.ref 174), some (.int (hq_gi s 174 27)), none, none, none] [] (fun n h => rfl) ?_
          cases h
          exact hT
      refine hq_p 1 73 [some (.ref 174), some (.int (hq_gi s 174 27)), none, none, none] [.ref 174] (fun n h => rfl) ?_
      refine hq_gf (x := .int (hq_gi z5 174 28)) rfl rfl rfl rfl rfl ?_
      by_cases c14 : (hq_gi z5 174 28) = 0
      · rw [if_pos c14] at h
        refine hq_izT rfl (hq_c_eq_T c14) ?_
        refine hq_p 2 82 [some (.ref 174), some (.int (hq_gi s 174 27)), none, none, none] [.ref 174, .ref 174] (fun n h => rfl) ?_
        refine hq_gf (x := .int (hq_gi z5 174 21)) rfl rfl rfl rfl rfl ?_
        refine hq_p 4 89 [some (.ref 174), some (.int (hq_gi s 174 27)), none, none, none] [.int ((hq_gi z5 174 21) ||| ((1 : Int32) <<< ((hq_gi s 174 27) &&& 31))), .ref 174] (fun n h => rfl) ?_
        obtain ⟨s15, hs15, h⟩ := hq_bind h
        refine hq_pfi rfl rfl rfl rfl rfl hs15 ?_
        refine hq_p 1 93 [some (.ref 174), some (.int (hq_gi s 174 27)), none, none, none] [.ref 174] (fun n h => rfl) ?_
        obtain ⟨s16, hs16, h⟩ := hq_bind h
        refine hq_inv rfl rfl (Nat.le_trans (by decide) hd) rfl rfl (hq_rcv rfl rfl) (f_X12_token_run (Nat.le_sub_of_add_le (Nat.le_trans (by decide) hd)) hs16) rfl ?_
        refine hq_p 1 97 [some (.ref 174), some (.int (hq_gi s 174 27)), none, none, none] [.int (hq_gi s 174 27)] (fun n h => rfl) ?_
        by_cases c17 : (hq_gi s 174 27) = (0 : Int32)
        · rw [if_pos c17] at h
          refine hq_tsw rfl (show _ = some 144 from by rw [c17]; decide) ?_
          refine hq_p 3 148 [some (.ref 174), some (.int (hq_gi s 174 27)), none, none, none] [.int (0 : Int32), .ref 174, .int (10 : Int32)] (fun n h => rfl) ?_
          obtain ⟨y18, hy18, h⟩ := hq_bind h
          refine hq_inv rfl rfl (Nat.le_trans (by decide) hd) rfl rfl (hq_rcv rfl rfl) (f_X12_fresher_run (Nat.le_sub_of_add_le (Nat.le_trans (by decide) hd)) hy18) rfl ?_
          refine hq_p 3 154 [some (.ref 174), some (.int (hq_gi s 174 27)), some (.int ((10 : Int32) + y18.1)), none, none] [.ref 174] (fun n h => rfl) ?_
          refine hq_gf (x := .ref 177) rfl rfl rfl rfl rfl ?_
          refine hq_p 3 160 [some (.ref 174), some (.int (hq_gi s 174 27)), some (.int ((10 : Int32) + y18.1)), none, none] [.ref 174, .ref 174, .int ((10 : Int32) + y18.1), .ref 177] (fun n h => rfl) ?_
          refine hq_gf (x := .ref 177) rfl rfl rfl rfl rfl ?_
          refine hq_p 3 167 [some (.ref 174), some (.int (hq_gi s 174 27)), some (.int ((10 : Int32) + y18.1)), none, none] [.int (0 : Int32), .ref 174, .int (10 : Int32), .ref 177, .ref 174, .int ((10 : Int32) + y18.1), .ref 177] (fun n h => rfl) ?_
          obtain ⟨y19, hy19, h⟩ := hq_bind h
          refine hq_inv rfl rfl (Nat.le_trans (by decide) hd) rfl rfl (hq_rcv rfl rfl) (f_X12_fresher_run (Nat.le_sub_of_add_le (Nat.le_trans (by decide) hd)) hy19) rfl ?_
          obtain ⟨y20, hy20, h⟩ := hq_bind h
          refine hq_inv rfl rfl (Nat.le_trans (by decide) hd) rfl rfl (hq_rcv rfl rfl) (f_X12_fresh_run (Nat.le_sub_of_add_le (Nat.le_trans (by decide) hd)) hy20) rfl ?_
          obtain ⟨s21, hs21, h⟩ := hq_bind h
          refine hq_iastore rfl rfl List.length_replicate hs21 ?_
          refine hq_p 1 175 [some (.ref 174), some (.int (hq_gi s 174 27)), some (.int ((10 : Int32) + y18.1)), none, none] [.ref 174] (fun n h => rfl) ?_
          refine hq_gf (x := .ref 178) rfl rfl rfl rfl rfl ?_
          refine hq_p 4 183 [some (.ref 174), some (.int (hq_gi s 174 27)), some (.int ((10 : Int32) + y18.1)), none, none] [.int (9 : Int32), .int (0 : Int32), .ref 174, .int ((10 : Int32) + y18.1), .ref 178] (fun n h => rfl) ?_
          obtain ⟨y22, hy22, h⟩ := hq_bind h
          refine hq_inv rfl rfl (Nat.le_trans (by decide) hd) rfl rfl (hq_rcv rfl rfl) (f_X12_numeral_run (Nat.le_sub_of_add_le (Nat.le_trans (by decide) hd)) hy22) rfl ?_
          obtain ⟨s23, hs23, h⟩ := hq_bind h
          refine hq_iastore rfl rfl List.length_replicate hs23 ?_
          refine hq_p 1 188 [some (.ref 174), some (.int (hq_gi s 174 27)), some (.int ((10 : Int32) + y18.1)), none, none] [.ref 174] (fun n h => rfl) ?_
          refine hq_gf (x := .ref 179) rfl rfl rfl rfl rfl ?_
          refine hq_p 3 194 [some (.ref 174), some (.int (hq_gi s 174 27)), some (.int ((10 : Int32) + y18.1)), none, none] [.int (0 : Int32), .ref 174, .int ((10 : Int32) + y18.1), .ref 179] (fun n h => rfl) ?_
          refine hq_sip (999 : Int32) rfl (by decide) ?_
          obtain ⟨y24, hy24, h⟩ := hq_bind h
          refine hq_inv rfl rfl (Nat.le_trans (by decide) hd) rfl rfl (hq_rcv rfl rfl) (f_X12_numeral_run (Nat.le_sub_of_add_le (Nat.le_trans (by decide) hd)) hy24) rfl ?_
          obtain ⟨s25, hs25, h⟩ := hq_bind h
          refine hq_iastore rfl rfl List.length_replicate hs25 ?_
          refine hq_p 4 205 [some (.ref 174), some (.int (hq_gi s 174 27)), some (.int ((10 : Int32) + y18.1)), none, none] [.int (0 : Int32), .ref 174, .int (0 : Int32), .ref 174] (fun n h => rfl) ?_
          obtain ⟨y26, hy26, h⟩ := hq_bind h
          refine hq_inv rfl rfl (Nat.le_trans (by decide) hd) rfl rfl (hq_rcv rfl rfl) (f_X12_fresher_run (Nat.le_sub_of_add_le (Nat.le_trans (by decide) hd)) hy26) rfl ?_
          refine hq_p 2 210 [some (.ref 174), some (.int (hq_gi s 174 27)), some (.int ((10 : Int32) + y18.1)), none, none] [.int (y26.1 + (1 : Int32)), .int (0 : Int32), .ref 174] (fun n h => rfl) ?_
          obtain ⟨s27, hs27, h⟩ := hq_bind h
          refine hq_inv rfl rfl (Nat.le_trans (by decide) hd) rfl rfl (hq_rcv rfl rfl) (f_X12_reads_run (Nat.le_sub_of_add_le (Nat.le_trans (by decide) hd)) hs27) rfl ?_
          refine hq_p 1 404 [some (.ref 174), some (.int (hq_gi s 174 27)), some (.int ((10 : Int32) + y18.1)), none, none] [] (fun n h => rfl) ?_
          exact f_X12_line_J404_run hd h
        rw [if_neg c17] at h
        by_cases c35 : (hq_gi s 174 27) = (1 : Int32)
        · rw [if_pos c35] at h
          refine hq_tsw rfl (show _ = some 216 from by rw [c35]; decide) ?_
          refine hq_p 3 219 [some (.ref 174), some (.int (hq_gi s 174 27)), none, none, none] [.int (2 : Int32), .int (hq_gi s 174 27), .ref 174] (fun n h => rfl) ?_
          obtain ⟨z36, hz36, h⟩ := hq_bind h
          suffices hT : hq_R (mm_O xs) d mc_X12_line 227 [some (.ref 174), some (.int (hq_gi s 174 27)), none, none, none] [.int z36, .ref 174] s16 g none y from by
            clear h
            have h := hz36
            by_cases c37 : (hq_gi s 174 27) = (2 : Int32)
            · rw [if_pos c37] at h
              refine hq_icF rfl (hq_c_ne_F c37) ?_
              refine hq_p 2 227 [some (.ref 174), some (.int (hq_gi s 174 27)), none, none, none] [.int (1 : Int32), .ref 174] (fun n h => rfl) ?_
              cases h
              exact hT
            · rw [if_neg c37] at h
              refine hq_icT rfl (hq_c_ne_T c37) ?_
              refine hq_p 1 227 [some (.ref 174), some (.int (hq_gi s 174 27)), none, none, none] [.int (0 : Int32), .ref 174] (fun n h => rfl) ?_
              cases h
              exact hT
          obtain ⟨s38, hs38, h⟩ := hq_bind h
          refine hq_inv rfl rfl (Nat.le_trans (by decide) hd) rfl rfl (hq_rcv rfl rfl) (f_X12_laneLine_run (Nat.le_sub_of_add_le (Nat.le_trans (by decide) hd)) hs38) rfl ?_
          refine hq_p 1 404 [some (.ref 174), some (.int (hq_gi s 174 27)), none, none, none] [] (fun n h => rfl) ?_
          exact f_X12_line_J404_run hd h
        rw [if_neg c35] at h
        by_cases c39 : (hq_gi s 174 27) = (2 : Int32)
        · rw [if_pos c39] at h
          refine hq_tsw rfl (show _ = some 216 from by rw [c39]; decide) ?_
          refine hq_p 3 219 [some (.ref 174), some (.int (hq_gi s 174 27)), none, none, none] [.int (2 : Int32), .int (hq_gi s 174 27), .ref 174] (fun n h => rfl) ?_
          obtain ⟨z40, hz40, h⟩ := hq_bind h
          suffices hT : hq_R (mm_O xs) d mc_X12_line 227 [some (.ref 174), some (.int (hq_gi s 174 27)), none, none, none] [.int z40, .ref 174] s16 g none y from by
            clear h
            have h := hz40
            by_cases c41 : (hq_gi s 174 27) = (2 : Int32)
            · rw [if_pos c41] at h
              refine hq_icF rfl (hq_c_ne_F c41) ?_
              refine hq_p 2 227 [some (.ref 174), some (.int (hq_gi s 174 27)), none, none, none] [.int (1 : Int32), .ref 174] (fun n h => rfl) ?_
              cases h
              exact hT
            · rw [if_neg c41] at h
              refine hq_icT rfl (hq_c_ne_T c41) ?_
              refine hq_p 1 227 [some (.ref 174), some (.int (hq_gi s 174 27)), none, none, none] [.int (0 : Int32), .ref 174] (fun n h => rfl) ?_
              cases h
              exact hT
          obtain ⟨s42, hs42, h⟩ := hq_bind h
          refine hq_inv rfl rfl (Nat.le_trans (by decide) hd) rfl rfl (hq_rcv rfl rfl) (f_X12_laneLine_run (Nat.le_sub_of_add_le (Nat.le_trans (by decide) hd)) hs42) rfl ?_
          refine hq_p 1 404 [some (.ref 174), some (.int (hq_gi s 174 27)), none, none, none] [] (fun n h => rfl) ?_
          exact f_X12_line_J404_run hd h
        rw [if_neg c39] at h
        by_cases c43 : (hq_gi s 174 27) = (3 : Int32)
        · rw [if_pos c43] at h
          refine hq_tsw rfl (show _ = some 233 from by rw [c43]; decide) ?_
          refine hq_p 3 236 [some (.ref 174), some (.int (hq_gi s 174 27)), none, none, none] [.int (2 : Int32), .ref 174, .int (3 : Int32)] (fun n h => rfl) ?_
          obtain ⟨y44, hy44, h⟩ := hq_bind h
          refine hq_inv rfl rfl (Nat.le_trans (by decide) hd) rfl rfl (hq_rcv rfl rfl) (f_X12_fresher_run (Nat.le_sub_of_add_le (Nat.le_trans (by decide) hd)) hy44) rfl ?_
          refine hq_p 3 242 [some (.ref 174), some (.int (hq_gi s 174 27)), none, some (.int ((3 : Int32) + y44.1)), none] [.ref 174] (fun n h => rfl) ?_
          refine hq_gf (x := .ref 183) rfl rfl rfl rfl rfl ?_
          refine hq_p 3 248 [some (.ref 174), some (.int (hq_gi s 174 27)), none, some (.int ((3 : Int32) + y44.1)), none] [.ref 174, .ref 174, .int ((3 : Int32) + y44.1), .ref 183] (fun n h => rfl) ?_
          refine hq_gf (x := .ref 183) rfl rfl rfl rfl rfl ?_
          refine hq_p 3 254 [some (.ref 174), some (.int (hq_gi s 174 27)), none, some (.int ((3 : Int32) + y44.1)), none] [.int (2 : Int32), .ref 174, .int (3 : Int32), .ref 183, .ref 174, .int ((3 : Int32) + y44.1), .ref 183] (fun n h => rfl) ?_
          obtain ⟨y45, hy45, h⟩ := hq_bind h
          refine hq_inv rfl rfl (Nat.le_trans (by decide) hd) rfl rfl (hq_rcv rfl rfl) (f_X12_fresher_run (Nat.le_sub_of_add_le (Nat.le_trans (by decide) hd)) hy45) rfl ?_
          obtain ⟨y46, hy46, h⟩ := hq_bind h
          refine hq_inv rfl rfl (Nat.le_trans (by decide) hd) rfl rfl (hq_rcv rfl rfl) (f_X12_fresh_run (Nat.le_sub_of_add_le (Nat.le_trans (by decide) hd)) hy46) rfl ?_
          obtain ⟨s47, hs47, h⟩ := hq_bind h
          refine hq_iastore rfl rfl List.length_replicate hs47 ?_
          refine hq_p 1 262 [some (.ref 174), some (.int (hq_gi s 174 27)), none, some (.int ((3 : Int32) + y44.1)), none] [.ref 174] (fun n h => rfl) ?_
          refine hq_gf (x := .ref 184) rfl rfl rfl rfl rfl ?_
          refine hq_p 2 267 [some (.ref 174), some (.int (hq_gi s 174 27)), none, some (.int ((3 : Int32) + y44.1)), none] [.ref 174, .int ((3 : Int32) + y44.1), .ref 184] (fun n h => rfl) ?_
          obtain ⟨y48, hy48, h⟩ := hq_bind h
          refine hq_inv rfl rfl (Nat.le_trans (by decide) hd) rfl rfl (hq_rcv rfl rfl) (f_X12_cornerAhead_run (Nat.le_sub_of_add_le (Nat.le_trans (by decide) hd)) hy48) rfl ?_
          obtain ⟨s49, hs49, h⟩ := hq_bind h
          refine hq_iastore rfl rfl List.length_replicate hs49 ?_
          refine hq_p 1 272 [some (.ref 174), some (.int (hq_gi s 174 27)), none, some (.int ((3 : Int32) + y44.1)), none] [.ref 174] (fun n h => rfl) ?_
          refine hq_gf (x := .ref 185) rfl rfl rfl rfl rfl ?_
          refine hq_p 2 277 [some (.ref 174), some (.int (hq_gi s 174 27)), none, some (.int ((3 : Int32) + y44.1)), none] [.int (0 : Int32), .int ((3 : Int32) + y44.1), .ref 185] (fun n h => rfl) ?_
          obtain ⟨s50, hs50, h⟩ := hq_bind h
          refine hq_iastore rfl rfl List.length_replicate hs50 ?_
          refine hq_p 4 282 [some (.ref 174), some (.int (hq_gi s 174 27)), none, some (.int ((3 : Int32) + y44.1)), none] [.int (2 : Int32), .ref 174, .int (2 : Int32), .ref 174] (fun n h => rfl) ?_
          obtain ⟨y51, hy51, h⟩ := hq_bind h
          refine hq_inv rfl rfl (Nat.le_trans (by decide) hd) rfl rfl (hq_rcv rfl rfl) (f_X12_fresher_run (Nat.le_sub_of_add_le (Nat.le_trans (by decide) hd)) hy51) rfl ?_
          refine hq_p 2 287 [some (.ref 174), some (.int (hq_gi s 174 27)), none, some (.int ((3 : Int32) + y44.1)), none] [.int (y51.1 + (1 : Int32)), .int (2 : Int32), .ref 174] (fun n h => rfl) ?_
          obtain ⟨s52, hs52, h⟩ := hq_bind h
          refine hq_inv rfl rfl (Nat.le_trans (by decide) hd) rfl rfl (hq_rcv rfl rfl) (f_X12_reads_run (Nat.le_sub_of_add_le (Nat.le_trans (by decide) hd)) hs52) rfl ?_
          refine hq_p 1 404 [some (.ref 174), some (.int (hq_gi s 174 27)), none, some (.int ((3 : Int32) + y44.1)), none] [] (fun n h => rfl) ?_
          exact f_X12_line_J404_run hd h
        rw [if_neg c43] at h
        by_cases c53 : (hq_gi s 174 27) = (4 : Int32)
        · rw [if_pos c53] at h
          refine hq_tsw rfl (show _ = some 293 from by rw [c53]; decide) ?_
          refine hq_p 1 294 [some (.ref 174), some (.int (hq_gi s 174 27)), none, none, none] [.ref 174] (fun n h => rfl) ?_
          obtain ⟨s54, hs54, h⟩ := hq_bind h
          refine hq_inv rfl rfl (Nat.le_trans (by decide) hd) rfl rfl (hq_rcv rfl rfl) (f_X12_beatLine_run (Nat.le_sub_of_add_le (Nat.le_trans (by decide) hd)) hs54) rfl ?_
          refine hq_p 1 404 [some (.ref 174), some (.int (hq_gi s 174 27)), none, none, none] [] (fun n h => rfl) ?_
          exact f_X12_line_J404_run hd h
        rw [if_neg c53] at h
        by_cases c55 : (hq_gi s 174 27) = (5 : Int32)
        · rw [if_pos c55] at h
          refine hq_tsw rfl (show _ = some 300 from by rw [c55]; decide) ?_
          refine hq_p 3 303 [some (.ref 174), some (.int (hq_gi s 174 27)), none, none, none] [.int (3 : Int32), .ref 174, .int (4 : Int32)] (fun n h => rfl) ?_
          obtain ⟨y56, hy56, h⟩ := hq_bind h
          refine hq_inv rfl rfl (Nat.le_trans (by decide) hd) rfl rfl (hq_rcv rfl rfl) (f_X12_fresher_run (Nat.le_sub_of_add_le (Nat.le_trans (by decide) hd)) hy56) rfl ?_
          refine hq_p 3 310 [some (.ref 174), some (.int (hq_gi s 174 27)), none, none, some (.int ((4 : Int32) + y56.1))] [.ref 174] (fun n h => rfl) ?_
          refine hq_gf (x := .ref 187) rfl rfl rfl rfl rfl ?_
          refine hq_p 3 317 [some (.ref 174), some (.int (hq_gi s 174 27)), none, none, some (.int ((4 : Int32) + y56.1))] [.ref 174, .ref 174, .int ((4 : Int32) + y56.1), .ref 187] (fun n h => rfl) ?_
          refine hq_gf (x := .ref 187) rfl rfl rfl rfl rfl ?_
          refine hq_p 3 323 [some (.ref 174), some (.int (hq_gi s 174 27)), none, none, some (.int ((4 : Int32) + y56.1))] [.int (3 : Int32), .ref 174, .int (4 : Int32), .ref 187, .ref 174, .int ((4 : Int32) + y56.1), .ref 187] (fun n h => rfl) ?_
          obtain ⟨y57, hy57, h⟩ := hq_bind h
          refine hq_inv rfl rfl (Nat.le_trans (by decide) hd) rfl rfl (hq_rcv rfl rfl) (f_X12_fresher_run (Nat.le_sub_of_add_le (Nat.le_trans (by decide) hd)) hy57) rfl ?_
          obtain ⟨y58, hy58, h⟩ := hq_bind h
          refine hq_inv rfl rfl (Nat.le_trans (by decide) hd) rfl rfl (hq_rcv rfl rfl) (f_X12_fresh_run (Nat.le_sub_of_add_le (Nat.le_trans (by decide) hd)) hy58) rfl ?_
          obtain ⟨s59, hs59, h⟩ := hq_bind h
          refine hq_iastore rfl rfl List.length_replicate hs59 ?_
          refine hq_p 1 331 [some (.ref 174), some (.int (hq_gi s 174 27)), none, none, some (.int ((4 : Int32) + y56.1))] [.ref 174] (fun n h => rfl) ?_
          refine hq_gf (x := .ref 188) rfl rfl rfl rfl rfl ?_
          refine hq_p 2 337 [some (.ref 174), some (.int (hq_gi s 174 27)), none, none, some (.int ((4 : Int32) + y56.1))] [.ref 174, .int ((4 : Int32) + y56.1), .ref 188] (fun n h => rfl) ?_
          obtain ⟨y60, hy60, h⟩ := hq_bind h
          refine hq_inv rfl rfl (Nat.le_trans (by decide) hd) rfl rfl (hq_rcv rfl rfl) (f_X12_cornerAhead_run (Nat.le_sub_of_add_le (Nat.le_trans (by decide) hd)) hy60) rfl ?_
          obtain ⟨s61, hs61, h⟩ := hq_bind h
          refine hq_iastore rfl rfl List.length_replicate hs61 ?_
          refine hq_p 1 342 [some (.ref 174), some (.int (hq_gi s 174 27)), none, none, some (.int ((4 : Int32) + y56.1))] [.ref 174] (fun n h => rfl) ?_
          refine hq_gf (x := .ref 189) rfl rfl rfl rfl rfl ?_
          refine hq_p 4 351 [some (.ref 174), some (.int (hq_gi s 174 27)), none, none, some (.int ((4 : Int32) + y56.1))] [.int (9 : Int32), .int (0 : Int32), .ref 174, .int ((4 : Int32) + y56.1), .ref 189] (fun n h => rfl) ?_
          obtain ⟨y62, hy62, h⟩ := hq_bind h
          refine hq_inv rfl rfl (Nat.le_trans (by decide) hd) rfl rfl (hq_rcv rfl rfl) (f_X12_numeral_run (Nat.le_sub_of_add_le (Nat.le_trans (by decide) hd)) hy62) rfl ?_
          obtain ⟨s63, hs63, h⟩ := hq_bind h
          refine hq_iastore rfl rfl List.length_replicate hs63 ?_
          refine hq_p 4 359 [some (.ref 174), some (.int (hq_gi s 174 27)), none, none, some (.int ((4 : Int32) + y56.1))] [.int (3 : Int32), .ref 174, .int (3 : Int32), .ref 174] (fun n h => rfl) ?_
          obtain ⟨y64, hy64, h⟩ := hq_bind h
          refine hq_inv rfl rfl (Nat.le_trans (by decide) hd) rfl rfl (hq_rcv rfl rfl) (f_X12_fresher_run (Nat.le_sub_of_add_le (Nat.le_trans (by decide) hd)) hy64) rfl ?_
          refine hq_p 2 364 [some (.ref 174), some (.int (hq_gi s 174 27)), none, none, some (.int ((4 : Int32) + y56.1))] [.int (y64.1 + (1 : Int32)), .int (3 : Int32), .ref 174] (fun n h => rfl) ?_
          obtain ⟨s65, hs65, h⟩ := hq_bind h
          refine hq_inv rfl rfl (Nat.le_trans (by decide) hd) rfl rfl (hq_rcv rfl rfl) (f_X12_reads_run (Nat.le_sub_of_add_le (Nat.le_trans (by decide) hd)) hs65) rfl ?_
          refine hq_p 1 404 [some (.ref 174), some (.int (hq_gi s 174 27)), none, none, some (.int ((4 : Int32) + y56.1))] [] (fun n h => rfl) ?_
          exact f_X12_line_J404_run hd h
        rw [if_neg c55] at h
        by_cases c66 : (hq_gi s 174 27) = (6 : Int32)
        · rw [if_pos c66] at h
          refine hq_tsw rfl (show _ = some 370 from by rw [c66]; decide) ?_
          refine hq_p 4 374 [some (.ref 174), some (.int (hq_gi s 174 27)), none, none, none] [.int (0 : Int32), .ref 174, .int (4 : Int32), .ref 174] (fun n h => rfl) ?_
          refine hq_bip (100 : Int32) rfl (by decide) ?_
          obtain ⟨y67, hy67, h⟩ := hq_bind h
          refine hq_inv rfl rfl (Nat.le_trans (by decide) hd) rfl rfl (hq_rcv rfl rfl) (f_X12_numeral_run (Nat.le_sub_of_add_le (Nat.le_trans (by decide) hd)) hy67) rfl ?_
          obtain ⟨s68, hs68, h⟩ := hq_bind h
          refine hq_inv rfl rfl (Nat.le_trans (by decide) hd) rfl rfl (hq_rcv rfl rfl) (f_X12_reads_run (Nat.le_sub_of_add_le (Nat.le_trans (by decide) hd)) hs68) rfl ?_
          refine hq_p 1 404 [some (.ref 174), some (.int (hq_gi s 174 27)), none, none, none] [] (fun n h => rfl) ?_
          exact f_X12_line_J404_run hd h
        rw [if_neg c66] at h
        by_cases c69 : (hq_gi s 174 27) = (7 : Int32)
        · rw [if_pos c69] at h
          refine hq_tsw rfl (show _ = some 385 from by rw [c69]; decide) ?_
          refine hq_p 4 389 [some (.ref 174), some (.int (hq_gi s 174 27)), none, none, none] [.int (0 : Int32), .ref 174, .int (5 : Int32), .ref 174] (fun n h => rfl) ?_
          refine hq_lcn (99999 : Int32) rfl (by decide) ?_
          obtain ⟨y70, hy70, h⟩ := hq_bind h
          refine hq_inv rfl rfl (Nat.le_trans (by decide) hd) rfl rfl (hq_rcv rfl rfl) (f_X12_numeral_run (Nat.le_sub_of_add_le (Nat.le_trans (by decide) hd)) hy70) rfl ?_
          obtain ⟨s71, hs71, h⟩ := hq_bind h
          refine hq_inv rfl rfl (Nat.le_trans (by decide) hd) rfl rfl (hq_rcv rfl rfl) (f_X12_reads_run (Nat.le_sub_of_add_le (Nat.le_trans (by decide) hd)) hs71) rfl ?_
          refine hq_p 1 404 [some (.ref 174), some (.int (hq_gi s 174 27)), none, none, none] [] (fun n h => rfl) ?_
          exact f_X12_line_J404_run hd h
        rw [if_neg c69] at h
        refine hq_tsw rfl (hq_tsw_d [(0 : Int32), (1 : Int32), (2 : Int32), (3 : Int32), (4 : Int32), (5 : Int32), (6 : Int32), (7 : Int32)] (by decide) rfl ⟨c17, c35, c39, c43, c53, c55, c66, c69, trivial⟩) ?_
        refine hq_p 1 401 [some (.ref 174), some (.int (hq_gi s 174 27)), none, none, none] [.ref 174] (fun n h => rfl) ?_
        obtain ⟨s72, hs72, h⟩ := hq_bind h
        refine hq_inv rfl rfl (Nat.le_trans (by decide) hd) rfl rfl (hq_rcv rfl rfl) (f_X12_lawLine_run (Nat.le_sub_of_add_le (Nat.le_trans (by decide) hd)) hs72) rfl ?_
        exact f_X12_line_J404_run hd h
      · rw [if_neg c14] at h
        refine hq_izF rfl (hq_c_eq_F c14) ?_
        have h := Option.some.inj h
        subst h
        exact ⟨1, rfl⟩
  · rw [if_neg c1] at h
    refine hq_izT rfl (hq_c_ne_T c1) ?_
    exact f_X12_line_J16_run hd h
def f_X12_half_L7_B (n : Nat) (q7 : Nat → Int32 → Int32 → hq_S → Option hq_S) (k0 : Nat) (a1 : Int32) (a2 : Int32) (s : hq_S) : Option hq_S := if a2 < a1 then (hq_ldiA s k0 (a1 + a2)).bind fun x4 => (hq_stiA s k0 a2 x4).bind fun s5 => q7 k0 a1 (a2 + (1 : Int32)) s5 else some s
def f_X12_half_L7 (n : Nat) (m : Nat) : Nat → Int32 → Int32 → hq_S → Option hq_S := Nat.rec (fun _ _ _ _ => none) (fun _ q => f_X12_half_L7_B n q) m
theorem f_X12_half_L7_Brun {xs : List Int32} {n d g : Nat} {k0 : Nat} {a1 : Int32} {a2 : Int32} {q7 : Nat → Int32 → Int32 → hq_S → Option hq_S} {s : hq_S} {y : hq_S} (hd : 0 ≤ d) (e7 : ∀ (k0 : Nat) (a1 : Int32) (a2 : Int32) (s : hq_S), q7 k0 a1 a2 s = some y → hq_R (mm_O xs) d mc_X12_half 7 [some (.ref k0), some (.int a1), some (.int a2)] [] s g none y) (h : f_X12_half_L7_B n q7 k0 a1 a2 s = some y) : hq_R (mm_O xs) d mc_X12_half 7 [some (.ref k0), some (.int a1), some (.int a2)] [] s g none y := by
  unfold f_X12_half_L7_B at h
  refine hq_p 2 9 [some (.ref k0), some (.int a1), some (.int a2)] [.int a1, .int a2] (fun n h => rfl) ?_
  by_cases c3 : a2 < a1
  · rw [if_pos c3] at h
    refine hq_icF rfl (hq_c_ge_F c3) ?_
    refine hq_p 6 18 [some (.ref k0), some (.int a1), some (.int a2)] [.int (a1 + a2), .ref k0, .int a2, .ref k0] (fun n h => rfl) ?_
    obtain ⟨x4, hx4, h⟩ := hq_bind h
    refine hq_ialoadA rfl hx4 ?_
    obtain ⟨s5, hs5, h⟩ := hq_bind h
    refine hq_iastoreA rfl hs5 ?_
    refine hq_p 2 7 [some (.ref k0), some (.int a1), some (.int (a2 + (1 : Int32)))] [] (fun n h => rfl) ?_
    exact e7 k0 a1 (a2 + (1 : Int32)) s5 h
  · rw [if_neg c3] at h
    refine hq_icT rfl (hq_c_ge_T c3) ?_
    have h := Option.some.inj h
    subst h
    exact ⟨1, rfl⟩
theorem f_X12_half_L7_run {xs : List Int32} {n m d g : Nat} {k0 : Nat} {a1 : Int32} {a2 : Int32} {s : hq_S} {y : hq_S} (hd : 0 ≤ d) (h : f_X12_half_L7 n m k0 a1 a2 s = some y) : hq_R (mm_O xs) d mc_X12_half 7 [some (.ref k0), some (.int a1), some (.int a2)] [] s g none y := by
  induction m generalizing k0 a1 a2 s with
  | zero => cases h
  | succ m ih => exact f_X12_half_L7_Brun (n := n) hd (fun k0 a1 a2 s h => ih h) h
def f_X12_half (n : Nat) (k0 : Nat) (s : hq_S) : Option hq_S := (hq_alA k0).bind fun x1 => (hq_idiv x1 (2 : Int32)).bind fun x2 => f_X12_half_L7 n n k0 x2 (0 : Int32) s
theorem f_X12_half_run {xs : List Int32} {n d g : Nat} {k0 : Nat} {s : hq_S} {y : hq_S} (hd : 0 ≤ d) (h : f_X12_half n k0 s = some y) : hq_R (mm_O xs) d mc_X12_half 0 [some (.ref k0), none, none] [] s g none y := by
  unfold f_X12_half at h
  refine hq_p 1 1 [some (.ref k0), none, none] [.ref k0] (fun n h => rfl) ?_
  obtain ⟨x1, hx1, h⟩ := hq_bind h
  refine hq_alenA rfl hx1 ?_
  refine hq_p 1 3 [some (.ref k0), none, none] [.int (2 : Int32), .int x1] (fun n h => rfl) ?_
  obtain ⟨x2, hx2, h⟩ := hq_bind h
  refine hq_idiv_ rfl hx2 ?_
  refine hq_p 3 7 [some (.ref k0), some (.int x2), some (.int (0 : Int32))] [] (fun n h => rfl) ?_
  exact f_X12_half_L7_run hd h
def f_X12_starts_L124_B (n : Nat) (q124 : Int32 → Int32 → hq_S → Option hq_S) (a1 : Int32) (a2 : Int32) (s : hq_S) : Option hq_S := if a2 < (4 : Int32) then (hq_ld s 188 8 a2).bind fun x8 => (hq_st s 203 92 (((4 : Int32) * a1) + a2) x8).bind fun s9 => (hq_st s9 204 92 (((4 : Int32) * a1) + a2) (0 : Int32)).bind fun s10 => (hq_st s10 205 92 (((4 : Int32) * a1) + a2) (-1 : Int32)).bind fun s11 => q124 a1 (a2 + (1 : Int32)) s11 else some s
def f_X12_starts_L124 (n : Nat) (m : Nat) : Int32 → Int32 → hq_S → Option hq_S := Nat.rec (fun _ _ _ => none) (fun _ q => f_X12_starts_L124_B n q) m
theorem f_X12_starts_L124_Brun {xs : List Int32} {n d g : Nat} {a1 : Int32} {a2 : Int32} {q124 : Int32 → Int32 → hq_S → Option hq_S} {s : hq_S} {y : hq_S} (hd : 0 ≤ d) (e124 : ∀ (a1 : Int32) (a2 : Int32) (s : hq_S), q124 a1 a2 s = some y → hq_R (mm_O xs) d mc_X12_starts 124 [some (.ref 174), some (.int a1), some (.int a2)] [] s g none y) (h : f_X12_starts_L124_B n q124 a1 a2 s = some y) : hq_R (mm_O xs) d mc_X12_starts 124 [some (.ref 174), some (.int a1), some (.int a2)] [] s g none y := by
  unfold f_X12_starts_L124_B at h
  refine hq_p 2 126 [some (.ref 174), some (.int a1), some (.int a2)] [.int (4 : Int32), .int a2] (fun n h => rfl) ?_
  by_cases c7 : a2 < (4 : Int32)
  · rw [if_pos c7] at h
    refine hq_icF rfl (hq_c_ge_F c7) ?_
    refine hq_p 1 130 [some (.ref 174), some (.int a1), some (.int a2)] [.ref 174] (fun n h => rfl) ?_
    refine hq_gf (x := .ref 203) rfl rfl rfl rfl rfl ?_
    refine hq_p 6 139 [some (.ref 174), some (.int a1), some (.int a2)] [.ref 174, .int (((4 : Int32) * a1) + a2), .ref 203] (fun n h => rfl) ?_
    refine hq_gf (x := .ref 188) rfl rfl rfl rfl rfl ?_
    refine hq_p 1 143 [some (.ref 174), some (.int a1), some (.int a2)] [.int a2, .ref 188, .int (((4 : Int32) * a1) + a2), .ref 203] (fun n h => rfl) ?_
    obtain ⟨x8, hx8, h⟩ := hq_bind h
    refine hq_iaload rfl rfl List.length_replicate hx8 ?_
    obtain ⟨s9, hs9, h⟩ := hq_bind h
    refine hq_iastore rfl rfl List.length_replicate hs9 ?_
    refine hq_p 1 146 [some (.ref 174), some (.int a1), some (.int a2)] [.ref 174] (fun n h => rfl) ?_
    refine hq_gf (x := .ref 204) rfl rfl rfl rfl rfl ?_
    refine hq_p 6 155 [some (.ref 174), some (.int a1), some (.int a2)] [.int (0 : Int32), .int (((4 : Int32) * a1) + a2), .ref 204] (fun n h => rfl) ?_
    obtain ⟨s10, hs10, h⟩ := hq_bind h
    refine hq_iastore rfl rfl List.length_replicate hs10 ?_
    refine hq_p 1 157 [some (.ref 174), some (.int a1), some (.int a2)] [.ref 174] (fun n h => rfl) ?_
    refine hq_gf (x := .ref 205) rfl rfl rfl rfl rfl ?_
    refine hq_p 5 165 [some (.ref 174), some (.int a1), some (.int a2)] [.int (((4 : Int32) * a1) + a2), .ref 205] (fun n h => rfl) ?_
    refine hq_icn (-1 : Int32) rfl (by decide) ?_
    obtain ⟨s11, hs11, h⟩ := hq_bind h
    refine hq_iastore rfl rfl rfl hs11 ?_
    refine hq_p 2 124 [some (.ref 174), some (.int a1), some (.int (a2 + (1 : Int32)))] [] (fun n h => rfl) ?_
    exact e124 a1 (a2 + (1 : Int32)) s11 h
  · rw [if_neg c7] at h
    refine hq_icT rfl (hq_c_ge_T c7) ?_
    have h := Option.some.inj h
    subst h
    exact ⟨1, rfl⟩
theorem f_X12_starts_L124_run {xs : List Int32} {n m d g : Nat} {a1 : Int32} {a2 : Int32} {s : hq_S} {y : hq_S} (hd : 0 ≤ d) (h : f_X12_starts_L124 n m a1 a2 s = some y) : hq_R (mm_O xs) d mc_X12_starts 124 [some (.ref 174), some (.int a1), some (.int a2)] [] s g none y := by
  induction m generalizing a1 a2 s with
  | zero => cases h
  | succ m ih => exact f_X12_starts_L124_Brun (n := n) hd (fun a1 a2 s h => ih h) h
def f_X12_starts_L73_B (n : Nat) (q73 : Int32 → Int32 → hq_S → Option hq_S) (a1 : Int32) (a2 : Int32) (s : hq_S) : Option hq_S := if a2 < (3 : Int32) then (hq_ld s 184 6 a2).bind fun x12 => (hq_st s 200 69 (((3 : Int32) * a1) + a2) x12).bind fun s13 => (hq_st s13 201 69 (((3 : Int32) * a1) + a2) (0 : Int32)).bind fun s14 => (hq_st s14 202 69 (((3 : Int32) * a1) + a2) (0 : Int32)).bind fun s15 => q73 a1 (a2 + (1 : Int32)) s15 else f_X12_starts_L124 n n a1 (0 : Int32) s
def f_X12_starts_L73 (n : Nat) (m : Nat) : Int32 → Int32 → hq_S → Option hq_S := Nat.rec (fun _ _ _ => none) (fun _ q => f_X12_starts_L73_B n q) m
theorem f_X12_starts_L73_Brun {xs : List Int32} {n d g : Nat} {a1 : Int32} {a2 : Int32} {q73 : Int32 → Int32 → hq_S → Option hq_S} {s : hq_S} {y : hq_S} (hd : 0 ≤ d) (e73 : ∀ (a1 : Int32) (a2 : Int32) (s : hq_S), q73 a1 a2 s = some y → hq_R (mm_O xs) d mc_X12_starts 73 [some (.ref 174), some (.int a1), some (.int a2)] [] s g none y) (h : f_X12_starts_L73_B n q73 a1 a2 s = some y) : hq_R (mm_O xs) d mc_X12_starts 73 [some (.ref 174), some (.int a1), some (.int a2)] [] s g none y := by
  unfold f_X12_starts_L73_B at h
  refine hq_p 2 75 [some (.ref 174), some (.int a1), some (.int a2)] [.int (3 : Int32), .int a2] (fun n h => rfl) ?_
  by_cases c6 : a2 < (3 : Int32)
  · rw [if_pos c6] at h
    refine hq_icF rfl (hq_c_ge_F c6) ?_
    refine hq_p 1 79 [some (.ref 174), some (.int a1), some (.int a2)] [.ref 174] (fun n h => rfl) ?_
    refine hq_gf (x := .ref 200) rfl rfl rfl rfl rfl ?_
    refine hq_p 6 88 [some (.ref 174), some (.int a1), some (.int a2)] [.ref 174, .int (((3 : Int32) * a1) + a2), .ref 200] (fun n h => rfl) ?_
    refine hq_gf (x := .ref 184) rfl rfl rfl rfl rfl ?_
    refine hq_p 1 92 [some (.ref 174), some (.int a1), some (.int a2)] [.int a2, .ref 184, .int (((3 : Int32) * a1) + a2), .ref 200] (fun n h => rfl) ?_
    obtain ⟨x12, hx12, h⟩ := hq_bind h
    refine hq_iaload rfl rfl List.length_replicate hx12 ?_
    obtain ⟨s13, hs13, h⟩ := hq_bind h
    refine hq_iastore rfl rfl List.length_replicate hs13 ?_
    refine hq_p 1 95 [some (.ref 174), some (.int a1), some (.int a2)] [.ref 174] (fun n h => rfl) ?_
    refine hq_gf (x := .ref 201) rfl rfl rfl rfl rfl ?_
    refine hq_p 6 104 [some (.ref 174), some (.int a1), some (.int a2)] [.int (0 : Int32), .int (((3 : Int32) * a1) + a2), .ref 201] (fun n h => rfl) ?_
    obtain ⟨s14, hs14, h⟩ := hq_bind h
    refine hq_iastore rfl rfl List.length_replicate hs14 ?_
    refine hq_p 1 106 [some (.ref 174), some (.int a1), some (.int a2)] [.ref 174] (fun n h => rfl) ?_
    refine hq_gf (x := .ref 202) rfl rfl rfl rfl rfl ?_
    refine hq_p 6 115 [some (.ref 174), some (.int a1), some (.int a2)] [.int (0 : Int32), .int (((3 : Int32) * a1) + a2), .ref 202] (fun n h => rfl) ?_
    obtain ⟨s15, hs15, h⟩ := hq_bind h
    refine hq_iastore rfl rfl List.length_replicate hs15 ?_
    refine hq_p 2 73 [some (.ref 174), some (.int a1), some (.int (a2 + (1 : Int32)))] [] (fun n h => rfl) ?_
    exact e73 a1 (a2 + (1 : Int32)) s15 h
  · rw [if_neg c6] at h
    refine hq_icT rfl (hq_c_ge_T c6) ?_
    refine hq_p 2 124 [some (.ref 174), some (.int a1), some (.int (0 : Int32))] [] (fun n h => rfl) ?_
    exact f_X12_starts_L124_run hd h
theorem f_X12_starts_L73_run {xs : List Int32} {n m d g : Nat} {a1 : Int32} {a2 : Int32} {s : hq_S} {y : hq_S} (hd : 0 ≤ d) (h : f_X12_starts_L73 n m a1 a2 s = some y) : hq_R (mm_O xs) d mc_X12_starts 73 [some (.ref 174), some (.int a1), some (.int a2)] [] s g none y := by
  induction m generalizing a1 a2 s with
  | zero => cases h
  | succ m ih => exact f_X12_starts_L73_Brun (n := n) hd (fun a1 a2 s h => ih h) h
def f_X12_starts_L28_B (n : Nat) (q28 : Int32 → Int32 → hq_S → Option hq_S) (a1 : Int32) (a2 : Int32) (s : hq_S) : Option hq_S := if a2 < (10 : Int32) then (hq_ld s 176 14 (0 : Int32)).bind fun x16 => (if a2 < x16 then (hq_ld s 179 20 a2).bind fun x19 => some x19 else some (0 : Int32)).bind fun z17 => (hq_st s 199 230 (((10 : Int32) * a1) + a2) z17).bind fun s20 => q28 a1 (a2 + (1 : Int32)) s20 else f_X12_starts_L73 n n a1 (0 : Int32) s
def f_X12_starts_L28 (n : Nat) (m : Nat) : Int32 → Int32 → hq_S → Option hq_S := Nat.rec (fun _ _ _ => none) (fun _ q => f_X12_starts_L28_B n q) m
theorem f_X12_starts_L28_Brun {xs : List Int32} {n d g : Nat} {a1 : Int32} {a2 : Int32} {q28 : Int32 → Int32 → hq_S → Option hq_S} {s : hq_S} {y : hq_S} (hd : 0 ≤ d) (e28 : ∀ (a1 : Int32) (a2 : Int32) (s : hq_S), q28 a1 a2 s = some y → hq_R (mm_O xs) d mc_X12_starts 28 [some (.ref 174), some (.int a1), some (.int a2)] [] s g none y) (h : f_X12_starts_L28_B n q28 a1 a2 s = some y) : hq_R (mm_O xs) d mc_X12_starts 28 [some (.ref 174), some (.int a1), some (.int a2)] [] s g none y := by
  unfold f_X12_starts_L28_B at h
  refine hq_p 2 31 [some (.ref 174), some (.int a1), some (.int a2)] [.int (10 : Int32), .int a2] (fun n h => rfl) ?_
  by_cases c5 : a2 < (10 : Int32)
  · rw [if_pos c5] at h
    refine hq_icF rfl (hq_c_ge_F c5) ?_
    refine hq_p 1 35 [some (.ref 174), some (.int a1), some (.int a2)] [.ref 174] (fun n h => rfl) ?_
    refine hq_gf (x := .ref 199) rfl rfl rfl rfl rfl ?_
    refine hq_p 7 46 [some (.ref 174), some (.int a1), some (.int a2)] [.ref 174, .int a2, .int (((10 : Int32) * a1) + a2), .ref 199] (fun n h => rfl) ?_
    refine hq_gf (x := .ref 176) rfl rfl rfl rfl rfl ?_
    refine hq_p 1 50 [some (.ref 174), some (.int a1), some (.int a2)] [.int (0 : Int32), .ref 176, .int a2, .int (((10 : Int32) * a1) + a2), .ref 199] (fun n h => rfl) ?_
    obtain ⟨x16, hx16, h⟩ := hq_bind h
    refine hq_iaload rfl rfl rfl hx16 ?_
    obtain ⟨z17, hz17, h⟩ := hq_bind h
    suffices hT : hq_R (mm_O xs) d mc_X12_starts 64 [some (.ref 174), some (.int a1), some (.int a2)] [.int z17, .int (((10 : Int32) * a1) + a2), .ref 199] s g none y from by
      clear h
      have h := hz17
      by_cases c18 : a2 < x16
      · rw [if_pos c18] at h
        refine hq_icF rfl (hq_c_ge_F c18) ?_
        refine hq_p 1 55 [some (.ref 174), some (.int a1), some (.int a2)] [.ref 174, .int (((10 : Int32) * a1) + a2), .ref 199] (fun n h => rfl) ?_
        refine hq_gf (x := .ref 179) rfl rfl rfl rfl rfl ?_
        refine hq_p 1 59 [some (.ref 174), some (.int a1), some (.int a2)] [.int a2, .ref 179, .int (((10 : Int32) * a1) + a2), .ref 199] (fun n h => rfl) ?_
        obtain ⟨x19, hx19, h⟩ := hq_bind h
        refine hq_iaload rfl rfl List.length_replicate hx19 ?_
        refine hq_p 1 64 [some (.ref 174), some (.int a1), some (.int a2)] [.int x19, .int (((10 : Int32) * a1) + a2), .ref 199] (fun n h => rfl) ?_
        cases h
        exact hT
      · rw [if_neg c18] at h
        refine hq_icT rfl (hq_c_ge_T c18) ?_
        refine hq_p 1 64 [some (.ref 174), some (.int a1), some (.int a2)] [.int (0 : Int32), .int (((10 : Int32) * a1) + a2), .ref 199] (fun n h => rfl) ?_
        cases h
        exact hT
    obtain ⟨s20, hs20, h⟩ := hq_bind h
    refine hq_iastore rfl rfl List.length_replicate hs20 ?_
    refine hq_p 2 28 [some (.ref 174), some (.int a1), some (.int (a2 + (1 : Int32)))] [] (fun n h => rfl) ?_
    exact e28 a1 (a2 + (1 : Int32)) s20 h
  · rw [if_neg c5] at h
    refine hq_icT rfl (hq_c_ge_T c5) ?_
    refine hq_p 2 73 [some (.ref 174), some (.int a1), some (.int (0 : Int32))] [] (fun n h => rfl) ?_
    exact f_X12_starts_L73_run hd h
theorem f_X12_starts_L28_run {xs : List Int32} {n m d g : Nat} {a1 : Int32} {a2 : Int32} {s : hq_S} {y : hq_S} (hd : 0 ≤ d) (h : f_X12_starts_L28 n m a1 a2 s = some y) : hq_R (mm_O xs) d mc_X12_starts 28 [some (.ref 174), some (.int a1), some (.int a2)] [] s g none y := by
  induction m generalizing a1 a2 s with
  | zero => cases h
  | succ m ih => exact f_X12_starts_L28_Brun (n := n) hd (fun a1 a2 s h => ih h) h
def f_X12_starts (n : Nat) (a1 : Int32) (s : hq_S) : Option hq_S := (hq_st s 196 23 a1 (0 : Int32)).bind fun s1 => (hq_ld s1 176 14 (5 : Int32)).bind fun x2 => (hq_st s1 197 23 a1 x2).bind fun s3 => (hq_st s3 198 23 a1 (0 : Int32)).bind fun s4 => f_X12_starts_L28 n n a1 (0 : Int32) s4
theorem f_X12_starts_run {xs : List Int32} {n d g : Nat} {a1 : Int32} {s : hq_S} {y : hq_S} (hd : 0 ≤ d) (h : f_X12_starts n a1 s = some y) : hq_R (mm_O xs) d mc_X12_starts 0 [some (.ref 174), some (.int a1), none] [] s g none y := by
  unfold f_X12_starts at h
  refine hq_p 1 1 [some (.ref 174), some (.int a1), none] [.ref 174] (fun n h => rfl) ?_
  refine hq_gf (x := .ref 196) rfl rfl rfl rfl rfl ?_
  refine hq_p 2 6 [some (.ref 174), some (.int a1), none] [.int (0 : Int32), .int a1, .ref 196] (fun n h => rfl) ?_
  obtain ⟨s1, hs1, h⟩ := hq_bind h
  refine hq_iastore rfl rfl List.length_replicate hs1 ?_
  refine hq_p 1 8 [some (.ref 174), some (.int a1), none] [.ref 174] (fun n h => rfl) ?_
  refine hq_gf (x := .ref 197) rfl rfl rfl rfl rfl ?_
  refine hq_p 2 13 [some (.ref 174), some (.int a1), none] [.ref 174, .int a1, .ref 197] (fun n h => rfl) ?_
  refine hq_gf (x := .ref 176) rfl rfl rfl rfl rfl ?_
  refine hq_p 1 17 [some (.ref 174), some (.int a1), none] [.int (5 : Int32), .ref 176, .int a1, .ref 197] (fun n h => rfl) ?_
  obtain ⟨x2, hx2, h⟩ := hq_bind h
  refine hq_iaload rfl rfl rfl hx2 ?_
  obtain ⟨s3, hs3, h⟩ := hq_bind h
  refine hq_iastore rfl rfl List.length_replicate hs3 ?_
  refine hq_p 1 20 [some (.ref 174), some (.int a1), none] [.ref 174] (fun n h => rfl) ?_
  refine hq_gf (x := .ref 198) rfl rfl rfl rfl rfl ?_
  refine hq_p 2 25 [some (.ref 174), some (.int a1), none] [.int (0 : Int32), .int a1, .ref 198] (fun n h => rfl) ?_
  obtain ⟨s4, hs4, h⟩ := hq_bind h
  refine hq_iastore rfl rfl List.length_replicate hs4 ?_
  refine hq_p 2 28 [some (.ref 174), some (.int a1), some (.int (0 : Int32))] [] (fun n h => rfl) ?_
  exact f_X12_starts_L28_run hd h
def f_X12_begins (n : Nat) (s : hq_S) : Option hq_S := (f_X12_starts n (0 : Int32) s).bind fun s1 => some s1
theorem f_X12_begins_run {xs : List Int32} {n d g : Nat} {s : hq_S} {y : hq_S} (hd : 1 ≤ d) (h : f_X12_begins n s = some y) : hq_R (mm_O xs) d mc_X12_begins 0 [some (.ref 174)] [] s g none y := by
  unfold f_X12_begins at h
  refine hq_p 2 2 [some (.ref 174)] [.int (0 : Int32), .ref 174] (fun n h => rfl) ?_
  obtain ⟨s1, hs1, h⟩ := hq_bind h
  refine hq_inv rfl rfl (Nat.le_trans (by decide) hd) rfl rfl (hq_rcv rfl rfl) (f_X12_starts_run (Nat.le_sub_of_add_le (Nat.le_trans (by decide) hd)) hs1) rfl ?_
  have h := Option.some.inj h
  subst h
  exact ⟨1, rfl⟩
def f_X12_text_J149 (n : Nat) (a1 : Int32) (a2 : Int32) (s : hq_S) : Option (Int32 × hq_S) := (hq_pi s 174 30 0 (hq_gi s 174 28)).bind fun s17 => (hq_pi s17 174 31 0 (hq_gi s17 174 29)).bind fun s18 => if (hq_gi s18 174 28) = 0 then (f_X12_half n 176 s18).bind fun s20 => (f_X12_half n 177 s20).bind fun s21 => (f_X12_half n 178 s21).bind fun s22 => (f_X12_half n 179 s22).bind fun s23 => (f_X12_half n 180 s23).bind fun s24 => (f_X12_half n 181 s24).bind fun s25 => (f_X12_half n 182 s25).bind fun s26 => (f_X12_half n 183 s26).bind fun s27 => (f_X12_half n 184 s27).bind fun s28 => (f_X12_half n 185 s28).bind fun s29 => (f_X12_half n 186 s29).bind fun s30 => (f_X12_half n 187 s30).bind fun s31 => (f_X12_half n 188 s31).bind fun s32 => (f_X12_half n 189 s32).bind fun s33 => (f_X12_half n 190 s33).bind fun s34 => (f_X12_half n 191 s34).bind fun s35 => (f_X12_half n 192 s35).bind fun s36 => (f_X12_half n 193 s36).bind fun s37 => (hq_pi s37 174 74 0 (0 : Int32)).bind fun s38 => (hq_pi s38 174 75 0 (-1 : Int32)).bind fun s39 => (hq_pi s39 174 47 1 (0 : Int32)).bind fun s40 => (hq_pi s40 174 48 0 (0 : Int32)).bind fun s41 => (f_X12_begins n s41).bind fun s42 => some ((hq_gi s42 174 22), s42) else some ((-1 : Int32), s18)
theorem f_X12_text_J149_run {xs : List Int32} {n d g : Nat} {a1 : Int32} {a2 : Int32} {s : hq_S} {y : (Int32 × hq_S)} (hd : 212 ≤ d) (h : f_X12_text_J149 n a1 a2 s = some y) : hq_R (mm_O xs) d mc_X12_text 149 [some (.ref 174), some (.int a1), some (.int a2)] [] s g (some (.int y.1)) y.2 := by
  unfold f_X12_text_J149 at h
  refine hq_p 2 151 [some (.ref 174), some (.int a1), some (.int a2)] [.ref 174, .ref 174] (fun n h => rfl) ?_
  refine hq_gf (x := .int (hq_gi s 174 28)) rfl rfl rfl rfl rfl ?_
  obtain ⟨s17, hs17, h⟩ := hq_bind h
  refine hq_pfi rfl rfl rfl rfl rfl hs17 ?_
  refine hq_p 2 159 [some (.ref 174), some (.int a1), some (.int a2)] [.ref 174, .ref 174] (fun n h => rfl) ?_
  refine hq_gf (x := .int (hq_gi s17 174 29)) rfl rfl rfl rfl rfl ?_
  obtain ⟨s18, hs18, h⟩ := hq_bind h
  refine hq_pfi rfl rfl rfl rfl rfl hs18 ?_
  refine hq_p 1 166 [some (.ref 174), some (.int a1), some (.int a2)] [.ref 174] (fun n h => rfl) ?_
  refine hq_gf (x := .int (hq_gi s18 174 28)) rfl rfl rfl rfl rfl ?_
  by_cases c19 : (hq_gi s18 174 28) = 0
  · rw [if_pos c19] at h
    refine hq_izT rfl (hq_c_eq_T c19) ?_
    refine hq_p 1 175 [some (.ref 174), some (.int a1), some (.int a2)] [.ref 174] (fun n h => rfl) ?_
    refine hq_gf (x := .ref 176) rfl rfl rfl rfl rfl ?_
    obtain ⟨s20, hs20, h⟩ := hq_bind h
    refine hq_ist rfl rfl rfl (Nat.le_trans (by decide) hd) rfl (f_X12_half_run (Nat.le_sub_of_add_le (Nat.le_trans (by decide) hd)) hs20) rfl ?_
    refine hq_p 1 182 [some (.ref 174), some (.int a1), some (.int a2)] [.ref 174] (fun n h => rfl) ?_
    refine hq_gf (x := .ref 177) rfl rfl rfl rfl rfl ?_
    obtain ⟨s21, hs21, h⟩ := hq_bind h
    refine hq_ist rfl rfl rfl (Nat.le_trans (by decide) hd) rfl (f_X12_half_run (Nat.le_sub_of_add_le (Nat.le_trans (by decide) hd)) hs21) rfl ?_
    refine hq_p 1 189 [some (.ref 174), some (.int a1), some (.int a2)] [.ref 174] (fun n h => rfl) ?_
    refine hq_gf (x := .ref 178) rfl rfl rfl rfl rfl ?_
    obtain ⟨s22, hs22, h⟩ := hq_bind h
    refine hq_ist rfl rfl rfl (Nat.le_trans (by decide) hd) rfl (f_X12_half_run (Nat.le_sub_of_add_le (Nat.le_trans (by decide) hd)) hs22) rfl ?_
    refine hq_p 1 196 [some (.ref 174), some (.int a1), some (.int a2)] [.ref 174] (fun n h => rfl) ?_
    refine hq_gf (x := .ref 179) rfl rfl rfl rfl rfl ?_
    obtain ⟨s23, hs23, h⟩ := hq_bind h
    refine hq_ist rfl rfl rfl (Nat.le_trans (by decide) hd) rfl (f_X12_half_run (Nat.le_sub_of_add_le (Nat.le_trans (by decide) hd)) hs23) rfl ?_
    refine hq_p 1 203 [some (.ref 174), some (.int a1), some (.int a2)] [.ref 174] (fun n h => rfl) ?_
    refine hq_gf (x := .ref 180) rfl rfl rfl rfl rfl ?_
    obtain ⟨s24, hs24, h⟩ := hq_bind h
    refine hq_ist rfl rfl rfl (Nat.le_trans (by decide) hd) rfl (f_X12_half_run (Nat.le_sub_of_add_le (Nat.le_trans (by decide) hd)) hs24) rfl ?_
    refine hq_p 1 210 [some (.ref 174), some (.int a1), some (.int a2)] [.ref 174] (fun n h => rfl) ?_
    refine hq_gf (x := .ref 181) rfl rfl rfl rfl rfl ?_
    obtain ⟨s25, hs25, h⟩ := hq_bind h
    refine hq_ist rfl rfl rfl (Nat.le_trans (by decide) hd) rfl (f_X12_half_run (Nat.le_sub_of_add_le (Nat.le_trans (by decide) hd)) hs25) rfl ?_
    refine hq_p 1 217 [some (.ref 174), some (.int a1), some (.int a2)] [.ref 174] (fun n h => rfl) ?_
    refine hq_gf (x := .ref 182) rfl rfl rfl rfl rfl ?_
    obtain ⟨s26, hs26, h⟩ := hq_bind h
    refine hq_ist rfl rfl rfl (Nat.le_trans (by decide) hd) rfl (f_X12_half_run (Nat.le_sub_of_add_le (Nat.le_trans (by decide) hd)) hs26) rfl ?_
    refine hq_p 1 224 [some (.ref 174), some (.int a1), some (.int a2)] [.ref 174] (fun n h => rfl) ?_
    refine hq_gf (x := .ref 183) rfl rfl rfl rfl rfl ?_
    obtain ⟨s27, hs27, h⟩ := hq_bind h
    refine hq_ist rfl rfl rfl (Nat.le_trans (by decide) hd) rfl (f_X12_half_run (Nat.le_sub_of_add_le (Nat.le_trans (by decide) hd)) hs27) rfl ?_
    refine hq_p 1 231 [some (.ref 174), some (.int a1), some (.int a2)] [.ref 174] (fun n h => rfl) ?_
    refine hq_gf (x := .ref 184) rfl rfl rfl rfl rfl ?_
    obtain ⟨s28, hs28, h⟩ := hq_bind h
    refine hq_ist rfl rfl rfl (Nat.le_trans (by decide) hd) rfl (f_X12_half_run (Nat.le_sub_of_add_le (Nat.le_trans (by decide) hd)) hs28) rfl ?_
    refine hq_p 1 238 [some (.ref 174), some (.int a1), some (.int a2)] [.ref 174] (fun n h => rfl) ?_
    refine hq_gf (x := .ref 185) rfl rfl rfl rfl rfl ?_
    obtain ⟨s29, hs29, h⟩ := hq_bind h
    refine hq_ist rfl rfl rfl (Nat.le_trans (by decide) hd) rfl (f_X12_half_run (Nat.le_sub_of_add_le (Nat.le_trans (by decide) hd)) hs29) rfl ?_
    refine hq_p 1 245 [some (.ref 174), some (.int a1), some (.int a2)] [.ref 174] (fun n h => rfl) ?_
    refine hq_gf (x := .ref 186) rfl rfl rfl rfl rfl ?_
    obtain ⟨s30, hs30, h⟩ := hq_bind h
    refine hq_ist rfl rfl rfl (Nat.le_trans (by decide) hd) rfl (f_X12_half_run (Nat.le_sub_of_add_le (Nat.le_trans (by decide) hd)) hs30) rfl ?_
    refine hq_p 1 252 [some (.ref 174), some (.int a1), some (.int a2)] [.ref 174] (fun n h => rfl) ?_
    refine hq_gf (x := .ref 187) rfl rfl rfl rfl rfl ?_
    obtain ⟨s31, hs31, h⟩ := hq_bind h
    refine hq_ist rfl rfl rfl (Nat.le_trans (by decide) hd) rfl (f_X12_half_run (Nat.le_sub_of_add_le (Nat.le_trans (by decide) hd)) hs31) rfl ?_
    refine hq_p 1 259 [some (.ref 174), some (.int a1), some (.int a2)] [.ref 174] (fun n h => rfl) ?_
    refine hq_gf (x := .ref 188) rfl rfl rfl rfl rfl ?_
    obtain ⟨s32, hs32, h⟩ := hq_bind h
    refine hq_ist rfl rfl rfl (Nat.le_trans (by decide) hd) rfl (f_X12_half_run (Nat.le_sub_of_add_le (Nat.le_trans (by decide) hd)) hs32) rfl ?_
    refine hq_p 1 266 [some (.ref 174), some (.int a1), some (.int a2)] [.ref 174] (fun n h => rfl) ?_
    refine hq_gf (x := .ref 189) rfl rfl rfl rfl rfl ?_
    obtain ⟨s33, hs33, h⟩ := hq_bind h
    refine hq_ist rfl rfl rfl (Nat.le_trans (by decide) hd) rfl (f_X12_half_run (Nat.le_sub_of_add_le (Nat.le_trans (by decide) hd)) hs33) rfl ?_
    refine hq_p 1 273 [some (.ref 174), some (.int a1), some (.int a2)] [.ref 174] (fun n h => rfl) ?_
    refine hq_gf (x := .ref 190) rfl rfl rfl rfl rfl ?_
    obtain ⟨s34, hs34, h⟩ := hq_bind h
    refine hq_ist rfl rfl rfl (Nat.le_trans (by decide) hd) rfl (f_X12_half_run (Nat.le_sub_of_add_le (Nat.le_trans (by decide) hd)) hs34) rfl ?_
    refine hq_p 1 280 [some (.ref 174), some (.int a1), some (.int a2)] [.ref 174] (fun n h => rfl) ?_
    refine hq_gf (x := .ref 191) rfl rfl rfl rfl rfl ?_
    obtain ⟨s35, hs35, h⟩ := hq_bind h
    refine hq_ist rfl rfl rfl (Nat.le_trans (by decide) hd) rfl (f_X12_half_run (Nat.le_sub_of_add_le (Nat.le_trans (by decide) hd)) hs35) rfl ?_
    refine hq_p 1 287 [some (.ref 174), some (.int a1), some (.int a2)] [.ref 174] (fun n h => rfl) ?_
    refine hq_gf (x := .ref 192) rfl rfl rfl rfl rfl ?_
    obtain ⟨s36, hs36, h⟩ := hq_bind h
    refine hq_ist rfl rfl rfl (Nat.le_trans (by decide) hd) rfl (f_X12_half_run (Nat.le_sub_of_add_le (Nat.le_trans (by decide) hd)) hs36) rfl ?_
    refine hq_p 1 294 [some (.ref 174), some (.int a1), some (.int a2)] [.ref 174] (fun n h => rfl) ?_
    refine hq_gf (x := .ref 193) rfl rfl rfl rfl rfl ?_
    obtain ⟨s37, hs37, h⟩ := hq_bind h
    refine hq_ist rfl rfl rfl (Nat.le_trans (by decide) hd) rfl (f_X12_half_run (Nat.le_sub_of_add_le (Nat.le_trans (by decide) hd)) hs37) rfl ?_
    refine hq_p 2 302 [some (.ref 174), some (.int a1), some (.int a2)] [.int (0 : Int32), .ref 174] (fun n h => rfl) ?_
    obtain ⟨s38, hs38, h⟩ := hq_bind h
    refine hq_pfi rfl rfl rfl rfl rfl hs38 ?_
    refine hq_p 1 306 [some (.ref 174), some (.int a1), some (.int a2)] [.ref 174] (fun n h => rfl) ?_
    refine hq_icn (-1 : Int32) rfl (by decide) ?_
    obtain ⟨s39, hs39, h⟩ := hq_bind h
    refine hq_pfi rfl rfl rfl rfl rfl hs39 ?_
    refine hq_p 2 312 [some (.ref 174), some (.int a1), some (.int a2)] [.int (0 : Int32), .ref 174] (fun n h => rfl) ?_
    obtain ⟨s40, hs40, h⟩ := hq_bind h
    refine hq_pfi rfl rfl rfl rfl rfl hs40 ?_
    refine hq_p 2 317 [some (.ref 174), some (.int a1), some (.int a2)] [.int (0 : Int32), .ref 174] (fun n h => rfl) ?_
    obtain ⟨s41, hs41, h⟩ := hq_bind h
    refine hq_pfi rfl rfl rfl rfl rfl hs41 ?_
    refine hq_p 1 321 [some (.ref 174), some (.int a1), some (.int a2)] [.ref 174] (fun n h => rfl) ?_
    obtain ⟨s42, hs42, h⟩ := hq_bind h
    refine hq_inv rfl rfl (Nat.le_trans (by decide) hd) rfl rfl (hq_rcv rfl rfl) (f_X12_begins_run (Nat.le_sub_of_add_le (Nat.le_trans (by decide) hd)) hs42) rfl ?_
    refine hq_p 1 325 [some (.ref 174), some (.int a1), some (.int a2)] [.ref 174] (fun n h => rfl) ?_
    refine hq_gf (x := .int (hq_gi s42 174 22)) rfl rfl rfl rfl rfl ?_
    have h := Option.some.inj h
    subst h
    exact ⟨1, rfl⟩
  · rw [if_neg c19] at h
    refine hq_izF rfl (hq_c_eq_F c19) ?_
    refine hq_icn (-1 : Int32) rfl (by decide) ?_
    have h := Option.some.inj h
    subst h
    exact ⟨1, rfl⟩
def f_X12_text_L127_B (n : Nat) (q127 : Int32 → Int32 → hq_S → Option (Int32 × hq_S)) (a1 : Int32) (a2 : Int32) (s : hq_S) : Option (Int32 × hq_S) := if (hq_gi s 174 28) = 0 then if (hq_gi s 174 26) = (4 : Int32) then f_X12_text_J149 n a1 a2 s else (f_X12_line n s).bind fun s44 => q127 a1 a2 s44 else f_X12_text_J149 n a1 a2 s
def f_X12_text_L127 (n : Nat) (m : Nat) : Int32 → Int32 → hq_S → Option (Int32 × hq_S) := Nat.rec (fun _ _ _ => none) (fun _ q => f_X12_text_L127_B n q) m
theorem f_X12_text_L127_Brun {xs : List Int32} {n d g : Nat} {a1 : Int32} {a2 : Int32} {q127 : Int32 → Int32 → hq_S → Option (Int32 × hq_S)} {s : hq_S} {y : (Int32 × hq_S)} (hd : 212 ≤ d) (e127 : ∀ (a1 : Int32) (a2 : Int32) (s : hq_S), q127 a1 a2 s = some y → hq_R (mm_O xs) d mc_X12_text 127 [some (.ref 174), some (.int a1), some (.int a2)] [] s g (some (.int y.1)) y.2) (h : f_X12_text_L127_B n q127 a1 a2 s = some y) : hq_R (mm_O xs) d mc_X12_text 127 [some (.ref 174), some (.int a1), some (.int a2)] [] s g (some (.int y.1)) y.2 := by
  unfold f_X12_text_L127_B at h
  refine hq_p 1 128 [some (.ref 174), some (.int a1), some (.int a2)] [.ref 174] (fun n h => rfl) ?_
  refine hq_gf (x := .int (hq_gi s 174 28)) rfl rfl rfl rfl rfl ?_
  by_cases c16 : (hq_gi s 174 28) = 0
  · rw [if_pos c16] at h
    refine hq_izF rfl (hq_c_ne_F c16) ?_
    refine hq_p 1 135 [some (.ref 174), some (.int a1), some (.int a2)] [.ref 174] (fun n h => rfl) ?_
    refine hq_gf (x := .int (hq_gi s 174 26)) rfl rfl rfl rfl rfl ?_
    refine hq_p 1 139 [some (.ref 174), some (.int a1), some (.int a2)] [.int (4 : Int32), .int (hq_gi s 174 26)] (fun n h => rfl) ?_
    by_cases c43 : (hq_gi s 174 26) = (4 : Int32)
    · rw [if_pos c43] at h
      refine hq_icT rfl (hq_c_eq_T c43) ?_
      exact f_X12_text_J149_run hd h
    · rw [if_neg c43] at h
      refine hq_icF rfl (hq_c_eq_F c43) ?_
      refine hq_p 1 143 [some (.ref 174), some (.int a1), some (.int a2)] [.ref 174] (fun n h => rfl) ?_
      obtain ⟨s44, hs44, h⟩ := hq_bind h
      refine hq_inv rfl rfl (Nat.le_trans (by decide) hd) rfl rfl (hq_rcv rfl rfl) (f_X12_line_run (Nat.le_sub_of_add_le (Nat.le_trans (by decide) hd)) hs44) rfl ?_
      refine hq_p 1 127 [some (.ref 174), some (.int a1), some (.int a2)] [] (fun n h => rfl) ?_
      exact e127 a1 a2 s44 h
  · rw [if_neg c16] at h
    refine hq_izT rfl (hq_c_ne_T c16) ?_
    exact f_X12_text_J149_run hd h
theorem f_X12_text_L127_run {xs : List Int32} {n m d g : Nat} {a1 : Int32} {a2 : Int32} {s : hq_S} {y : (Int32 × hq_S)} (hd : 212 ≤ d) (h : f_X12_text_L127 n m a1 a2 s = some y) : hq_R (mm_O xs) d mc_X12_text 127 [some (.ref 174), some (.int a1), some (.int a2)] [] s g (some (.int y.1)) y.2 := by
  induction m generalizing a1 a2 s with
  | zero => cases h
  | succ m ih => exact f_X12_text_L127_Brun (n := n) hd (fun a1 a2 s h => ih h) h
def f_X12_text_L77_B (n : Nat) (q77 : Int32 → Int32 → hq_S → Option (Int32 × hq_S)) (a1 : Int32) (a2 : Int32) (s : hq_S) : Option (Int32 × hq_S) := if a2 < (6 : Int32) then (hq_st s 190 6 a2 (0 : Int32)).bind fun s45 => (hq_st s45 191 6 a2 (0 : Int32)).bind fun s46 => q77 a1 (a2 + (1 : Int32)) s46 else (hq_pi s 174 21 0 (0 : Int32)).bind fun s11 => (hq_pi s11 174 22 0 (0 : Int32)).bind fun s12 => (hq_pi s12 174 32 0 (0 : Int32)).bind fun s13 => (hq_pi s13 174 33 0 (0 : Int32)).bind fun s14 => (f_X12_token n s14).bind fun s15 => f_X12_text_L127 n n a1 a2 s15
def f_X12_text_L77 (n : Nat) (m : Nat) : Int32 → Int32 → hq_S → Option (Int32 × hq_S) := Nat.rec (fun _ _ _ => none) (fun _ q => f_X12_text_L77_B n q) m
theorem f_X12_text_L77_Brun {xs : List Int32} {n d g : Nat} {a1 : Int32} {a2 : Int32} {q77 : Int32 → Int32 → hq_S → Option (Int32 × hq_S)} {s : hq_S} {y : (Int32 × hq_S)} (hd : 212 ≤ d) (e77 : ∀ (a1 : Int32) (a2 : Int32) (s : hq_S), q77 a1 a2 s = some y → hq_R (mm_O xs) d mc_X12_text 77 [some (.ref 174), some (.int a1), some (.int a2)] [] s g (some (.int y.1)) y.2) (h : f_X12_text_L77_B n q77 a1 a2 s = some y) : hq_R (mm_O xs) d mc_X12_text 77 [some (.ref 174), some (.int a1), some (.int a2)] [] s g (some (.int y.1)) y.2 := by
  unfold f_X12_text_L77_B at h
  refine hq_p 2 80 [some (.ref 174), some (.int a1), some (.int a2)] [.int (6 : Int32), .int a2] (fun n h => rfl) ?_
  by_cases c10 : a2 < (6 : Int32)
  · rw [if_pos c10] at h
    refine hq_icF rfl (hq_c_ge_F c10) ?_
    refine hq_p 1 84 [some (.ref 174), some (.int a1), some (.int a2)] [.ref 174] (fun n h => rfl) ?_
    refine hq_gf (x := .ref 190) rfl rfl rfl rfl rfl ?_
    refine hq_p 2 89 [some (.ref 174), some (.int a1), some (.int a2)] [.int (0 : Int32), .int a2, .ref 190] (fun n h => rfl) ?_
    obtain ⟨s45, hs45, h⟩ := hq_bind h
    refine hq_iastore rfl rfl List.length_replicate hs45 ?_
    refine hq_p 1 91 [some (.ref 174), some (.int a1), some (.int a2)] [.ref 174] (fun n h => rfl) ?_
    refine hq_gf (x := .ref 191) rfl rfl rfl rfl rfl ?_
    refine hq_p 2 96 [some (.ref 174), some (.int a1), some (.int a2)] [.int (0 : Int32), .int a2, .ref 191] (fun n h => rfl) ?_
    obtain ⟨s46, hs46, h⟩ := hq_bind h
    refine hq_iastore rfl rfl List.length_replicate hs46 ?_
    refine hq_p 2 77 [some (.ref 174), some (.int a1), some (.int (a2 + (1 : Int32)))] [] (fun n h => rfl) ?_
    exact e77 a1 (a2 + (1 : Int32)) s46 h
  · rw [if_neg c10] at h
    refine hq_icT rfl (hq_c_ge_T c10) ?_
    refine hq_p 2 105 [some (.ref 174), some (.int a1), some (.int a2)] [.int (0 : Int32), .ref 174] (fun n h => rfl) ?_
    obtain ⟨s11, hs11, h⟩ := hq_bind h
    refine hq_pfi rfl rfl rfl rfl rfl hs11 ?_
    refine hq_p 2 110 [some (.ref 174), some (.int a1), some (.int a2)] [.int (0 : Int32), .ref 174] (fun n h => rfl) ?_
    obtain ⟨s12, hs12, h⟩ := hq_bind h
    refine hq_pfi rfl rfl rfl rfl rfl hs12 ?_
    refine hq_p 2 115 [some (.ref 174), some (.int a1), some (.int a2)] [.int (0 : Int32), .ref 174] (fun n h => rfl) ?_
    obtain ⟨s13, hs13, h⟩ := hq_bind h
    refine hq_pfi rfl rfl rfl rfl rfl hs13 ?_
    refine hq_p 2 120 [some (.ref 174), some (.int a1), some (.int a2)] [.int (0 : Int32), .ref 174] (fun n h => rfl) ?_
    obtain ⟨s14, hs14, h⟩ := hq_bind h
    refine hq_pfi rfl rfl rfl rfl rfl hs14 ?_
    refine hq_p 1 124 [some (.ref 174), some (.int a1), some (.int a2)] [.ref 174] (fun n h => rfl) ?_
    obtain ⟨s15, hs15, h⟩ := hq_bind h
    refine hq_inv rfl rfl (Nat.le_trans (by decide) hd) rfl rfl (hq_rcv rfl rfl) (f_X12_token_run (Nat.le_sub_of_add_le (Nat.le_trans (by decide) hd)) hs15) rfl ?_
    exact f_X12_text_L127_run hd h
theorem f_X12_text_L77_run {xs : List Int32} {n m d g : Nat} {a1 : Int32} {a2 : Int32} {s : hq_S} {y : (Int32 × hq_S)} (hd : 212 ≤ d) (h : f_X12_text_L77 n m a1 a2 s = some y) : hq_R (mm_O xs) d mc_X12_text 77 [some (.ref 174), some (.int a1), some (.int a2)] [] s g (some (.int y.1)) y.2 := by
  induction m generalizing a1 a2 s with
  | zero => cases h
  | succ m ih => exact f_X12_text_L77_Brun (n := n) hd (fun a1 a2 s h => ih h) h
def f_X12_text_L47_B (n : Nat) (q47 : Int32 → Int32 → hq_S → Option (Int32 × hq_S)) (a1 : Int32) (a2 : Int32) (s : hq_S) : Option (Int32 × hq_S) := if a2 < (7 : Int32) then (if a2 = (4 : Int32) then some (100 : Int32) else some (0 : Int32)).bind fun z47 => (f_X12_reads n a2 z47 s).bind fun s49 => q47 a1 (a2 + (1 : Int32)) s49 else f_X12_text_L77 n n a1 (3 : Int32) s
def f_X12_text_L47 (n : Nat) (m : Nat) : Int32 → Int32 → hq_S → Option (Int32 × hq_S) := Nat.rec (fun _ _ _ => none) (fun _ q => f_X12_text_L47_B n q) m
theorem f_X12_text_L47_Brun {xs : List Int32} {n d g : Nat} {a1 : Int32} {a2 : Int32} {q47 : Int32 → Int32 → hq_S → Option (Int32 × hq_S)} {s : hq_S} {y : (Int32 × hq_S)} (hd : 212 ≤ d) (e47 : ∀ (a1 : Int32) (a2 : Int32) (s : hq_S), q47 a1 a2 s = some y → hq_R (mm_O xs) d mc_X12_text 47 [some (.ref 174), some (.int a1), some (.int a2)] [] s g (some (.int y.1)) y.2) (h : f_X12_text_L47_B n q47 a1 a2 s = some y) : hq_R (mm_O xs) d mc_X12_text 47 [some (.ref 174), some (.int a1), some (.int a2)] [] s g (some (.int y.1)) y.2 := by
  unfold f_X12_text_L47_B at h
  refine hq_p 2 50 [some (.ref 174), some (.int a1), some (.int a2)] [.int (7 : Int32), .int a2] (fun n h => rfl) ?_
  by_cases c9 : a2 < (7 : Int32)
  · rw [if_pos c9] at h
    refine hq_icF rfl (hq_c_ge_F c9) ?_
    refine hq_p 4 57 [some (.ref 174), some (.int a1), some (.int a2)] [.int (4 : Int32), .int a2, .int a2, .ref 174] (fun n h => rfl) ?_
    obtain ⟨z47, hz47, h⟩ := hq_bind h
    suffices hT : hq_R (mm_O xs) d mc_X12_text 66 [some (.ref 174), some (.int a1), some (.int a2)] [.int z47, .int a2, .ref 174] s g (some (.int y.1)) y.2 from by
      clear h
      have h := hz47
      by_cases c48 : a2 = (4 : Int32)
      · rw [if_pos c48] at h
        refine hq_icF rfl (hq_c_ne_F c48) ?_
        refine hq_bip (100 : Int32) rfl (by decide) ?_
        refine hq_p 1 66 [some (.ref 174), some (.int a1), some (.int a2)] [.int (100 : Int32), .int a2, .ref 174] (fun n h => rfl) ?_
        cases h
        exact hT
      · rw [if_neg c48] at h
        refine hq_icT rfl (hq_c_ne_T c48) ?_
        refine hq_p 1 66 [some (.ref 174), some (.int a1), some (.int a2)] [.int (0 : Int32), .int a2, .ref 174] (fun n h => rfl) ?_
        cases h
        exact hT
    obtain ⟨s49, hs49, h⟩ := hq_bind h
    refine hq_inv rfl rfl (Nat.le_trans (by decide) hd) rfl rfl (hq_rcv rfl rfl) (f_X12_reads_run (Nat.le_sub_of_add_le (Nat.le_trans (by decide) hd)) hs49) rfl ?_
    refine hq_p 2 47 [some (.ref 174), some (.int a1), some (.int (a2 + (1 : Int32)))] [] (fun n h => rfl) ?_
    exact e47 a1 (a2 + (1 : Int32)) s49 h
  · rw [if_neg c9] at h
    refine hq_icT rfl (hq_c_ge_T c9) ?_
    refine hq_p 2 77 [some (.ref 174), some (.int a1), some (.int (3 : Int32))] [] (fun n h => rfl) ?_
    exact f_X12_text_L77_run hd h
theorem f_X12_text_L47_run {xs : List Int32} {n m d g : Nat} {a1 : Int32} {a2 : Int32} {s : hq_S} {y : (Int32 × hq_S)} (hd : 212 ≤ d) (h : f_X12_text_L47 n m a1 a2 s = some y) : hq_R (mm_O xs) d mc_X12_text 47 [some (.ref 174), some (.int a1), some (.int a2)] [] s g (some (.int y.1)) y.2 := by
  induction m generalizing a1 a2 s with
  | zero => cases h
  | succ m ih => exact f_X12_text_L47_Brun (n := n) hd (fun a1 a2 s h => ih h) h
def f_X12_text (n : Nat) (a1 : Int32) (s : hq_S) : Option (Int32 × hq_S) := (hq_pi s 174 0 0 (0 : Int32)).bind fun s1 => if a1 < 0 then some ((-2 : Int32), s1) else if (hq_gi s1 174 2) < a1 then some ((-2 : Int32), s1) else (hq_pi s1 174 23 0 a1).bind fun s4 => (hq_pi s4 174 2 0 (0 : Int32)).bind fun s5 => (hq_pi s5 174 24 0 (0 : Int32)).bind fun s6 => (hq_pi s6 174 28 0 (0 : Int32)).bind fun s7 => (hq_pi s7 174 29 0 (-1 : Int32)).bind fun s8 => f_X12_text_L47 n n a1 (0 : Int32) s8
theorem f_X12_text_run {xs : List Int32} {n d g : Nat} {a1 : Int32} {s : hq_S} {y : (Int32 × hq_S)} (hd : 212 ≤ d) (h : f_X12_text n a1 s = some y) : hq_R (mm_O xs) d mc_X12_text 0 [some (.ref 174), some (.int a1), none] [] s g (some (.int y.1)) y.2 := by
  unfold f_X12_text at h
  refine hq_p 2 2 [some (.ref 174), some (.int a1), none] [.int (0 : Int32), .ref 174] (fun n h => rfl) ?_
  obtain ⟨s1, hs1, h⟩ := hq_bind h
  refine hq_pfi rfl rfl rfl rfl rfl hs1 ?_
  refine hq_p 1 6 [some (.ref 174), some (.int a1), none] [.int a1] (fun n h => rfl) ?_
  by_cases c2 : a1 < 0
  · rw [if_pos c2] at h
    refine hq_izT rfl (hq_c_lt_T c2) ?_
    refine hq_bip (-2 : Int32) rfl (by decide) ?_
    have h := Option.some.inj h
    subst h
    exact ⟨1, rfl⟩
  · rw [if_neg c2] at h
    refine hq_izF rfl (hq_c_lt_F c2) ?_
    refine hq_p 2 11 [some (.ref 174), some (.int a1), none] [.ref 174, .int a1] (fun n h => rfl) ?_
    refine hq_gf (x := .int (hq_gi s1 174 2)) rfl rfl rfl rfl rfl ?_
    by_cases c3 : (hq_gi s1 174 2) < a1
    · rw [if_pos c3] at h
      refine hq_icF rfl (hq_c_le_F c3) ?_
      refine hq_bip (-2 : Int32) rfl (by decide) ?_
      have h := Option.some.inj h
      subst h
      exact ⟨1, rfl⟩
    · rw [if_neg c3] at h
      refine hq_icT rfl (hq_c_le_T c3) ?_
      refine hq_p 2 22 [some (.ref 174), some (.int a1), none] [.int a1, .ref 174] (fun n h => rfl) ?_
      obtain ⟨s4, hs4, h⟩ := hq_bind h
      refine hq_pfi rfl rfl rfl rfl rfl hs4 ?_
      refine hq_p 2 27 [some (.ref 174), some (.int a1), none] [.int (0 : Int32), .ref 174] (fun n h => rfl) ?_
      obtain ⟨s5, hs5, h⟩ := hq_bind h
      refine hq_pfi rfl rfl rfl rfl rfl hs5 ?_
      refine hq_p 2 32 [some (.ref 174), some (.int a1), none] [.int (0 : Int32), .ref 174] (fun n h => rfl) ?_
      obtain ⟨s6, hs6, h⟩ := hq_bind h
      refine hq_pfi rfl rfl rfl rfl rfl hs6 ?_
      refine hq_p 2 37 [some (.ref 174), some (.int a1), none] [.int (0 : Int32), .ref 174] (fun n h => rfl) ?_
      obtain ⟨s7, hs7, h⟩ := hq_bind h
      refine hq_pfi rfl rfl rfl rfl rfl hs7 ?_
      refine hq_p 1 41 [some (.ref 174), some (.int a1), none] [.ref 174] (fun n h => rfl) ?_
      refine hq_icn (-1 : Int32) rfl (by decide) ?_
      obtain ⟨s8, hs8, h⟩ := hq_bind h
      refine hq_pfi rfl rfl rfl rfl rfl hs8 ?_
      refine hq_p 2 47 [some (.ref 174), some (.int a1), some (.int (0 : Int32))] [] (fun n h => rfl) ?_
      exact f_X12_text_L47_run hd h
def f_X12_fault (n : Nat) (a1 : Int32) (s : hq_S) : Option (Int32 × hq_S) := (hq_pi s 174 0 0 (0 : Int32)).bind fun s1 => if a1 = 0 then some ((hq_gi s1 174 30), s1) else if a1 = (1 : Int32) then some ((hq_gi s1 174 31), s1) else some ((-1 : Int32), s1)
theorem f_X12_fault_run {xs : List Int32} {n d g : Nat} {a1 : Int32} {s : hq_S} {y : (Int32 × hq_S)} (hd : 0 ≤ d) (h : f_X12_fault n a1 s = some y) : hq_R (mm_O xs) d mc_X12_fault 0 [some (.ref 174), some (.int a1)] [] s g (some (.int y.1)) y.2 := by
  unfold f_X12_fault at h
  refine hq_p 2 2 [some (.ref 174), some (.int a1)] [.int (0 : Int32), .ref 174] (fun n h => rfl) ?_
  obtain ⟨s1, hs1, h⟩ := hq_bind h
  refine hq_pfi rfl rfl rfl rfl rfl hs1 ?_
  refine hq_p 1 6 [some (.ref 174), some (.int a1)] [.int a1] (fun n h => rfl) ?_
  by_cases c2 : a1 = 0
  · rw [if_pos c2] at h
    refine hq_izF rfl (hq_c_ne_F c2) ?_
    refine hq_p 1 10 [some (.ref 174), some (.int a1)] [.ref 174] (fun n h => rfl) ?_
    refine hq_gf (x := .int (hq_gi s1 174 30)) rfl rfl rfl rfl rfl ?_
    refine hq_p 1 29 [some (.ref 174), some (.int a1)] [.int (hq_gi s1 174 30)] (fun n h => rfl) ?_
    have h := Option.some.inj h
    subst h
    exact ⟨1, rfl⟩
  · rw [if_neg c2] at h
    refine hq_izT rfl (hq_c_ne_T c2) ?_
    refine hq_p 2 18 [some (.ref 174), some (.int a1)] [.int (1 : Int32), .int a1] (fun n h => rfl) ?_
    by_cases c3 : a1 = (1 : Int32)
    · rw [if_pos c3] at h
      refine hq_icF rfl (hq_c_ne_F c3) ?_
      refine hq_p 1 22 [some (.ref 174), some (.int a1)] [.ref 174] (fun n h => rfl) ?_
      refine hq_gf (x := .int (hq_gi s1 174 31)) rfl rfl rfl rfl rfl ?_
      refine hq_p 1 29 [some (.ref 174), some (.int a1)] [.int (hq_gi s1 174 31)] (fun n h => rfl) ?_
      have h := Option.some.inj h
      subst h
      exact ⟨1, rfl⟩
    · rw [if_neg c3] at h
      refine hq_icT rfl (hq_c_ne_T c3) ?_
      refine hq_icn (-1 : Int32) rfl (by decide) ?_
      have h := Option.some.inj h
      subst h
      exact ⟨1, rfl⟩
def f_X12_named (n : Nat) (a1 : Int32) (a2 : Int32) (s : hq_S) : Option (Int32 × hq_S) := (hq_pi s 174 0 0 (0 : Int32)).bind fun s1 => if a1 = (0 : Int32) then (hq_ld s1 176 14 (0 : Int32)).bind fun x3 => (f_X12_found n 177 (0 : Int32) x3 a2 s1).bind fun y4 => some (y4.1, y4.2) else if a1 = (1 : Int32) then (hq_ld s1 176 14 (2 : Int32)).bind fun x6 => (f_X12_found n 183 (0 : Int32) x6 a2 s1).bind fun y7 => some (y7.1, y7.2) else if a1 = (2 : Int32) then (hq_ld s1 176 14 (3 : Int32)).bind fun x9 => (f_X12_found n 187 (0 : Int32) x9 a2 s1).bind fun y10 => some (y10.1, y10.2) else some ((-1 : Int32), s1)
theorem f_X12_named_run {xs : List Int32} {n d g : Nat} {a1 : Int32} {a2 : Int32} {s : hq_S} {y : (Int32 × hq_S)} (hd : 1 ≤ d) (h : f_X12_named n a1 a2 s = some y) : hq_R (mm_O xs) d mc_X12_named 0 [some (.ref 174), some (.int a1), some (.int a2)] [] s g (some (.int y.1)) y.2 := by
  unfold f_X12_named at h
  refine hq_p 2 2 [some (.ref 174), some (.int a1), some (.int a2)] [.int (0 : Int32), .ref 174] (fun n h => rfl) ?_
  obtain ⟨s1, hs1, h⟩ := hq_bind h
  refine hq_pfi rfl rfl rfl rfl rfl hs1 ?_
  refine hq_p 1 6 [some (.ref 174), some (.int a1), some (.int a2)] [.int a1] (fun n h => rfl) ?_
  by_cases c2 : a1 = (0 : Int32)
  · rw [if_pos c2] at h
    refine hq_tsw rfl (show _ = some 32 from by rw [c2]; decide) ?_
    refine hq_p 1 33 [some (.ref 174), some (.int a1), some (.int a2)] [.ref 174] (fun n h => rfl) ?_
    refine hq_gf (x := .ref 177) rfl rfl rfl rfl rfl ?_
    refine hq_p 2 38 [some (.ref 174), some (.int a1), some (.int a2)] [.ref 174, .int (0 : Int32), .ref 177] (fun n h => rfl) ?_
    refine hq_gf (x := .ref 176) rfl rfl rfl rfl rfl ?_
    refine hq_p 1 42 [some (.ref 174), some (.int a1), some (.int a2)] [.int (0 : Int32), .ref 176, .int (0 : Int32), .ref 177] (fun n h => rfl) ?_
    obtain ⟨x3, hx3, h⟩ := hq_bind h
    refine hq_iaload rfl rfl rfl hx3 ?_
    refine hq_p 1 44 [some (.ref 174), some (.int a1), some (.int a2)] [.int a2, .int x3, .int (0 : Int32), .ref 177] (fun n h => rfl) ?_
    obtain ⟨y4, hy4, h⟩ := hq_bind h
    refine hq_ist rfl rfl rfl (Nat.le_trans (by decide) hd) rfl (f_X12_found_run (Nat.le_sub_of_add_le (Nat.le_trans (by decide) hd)) hy4) rfl ?_
    have h := Option.some.inj h
    subst h
    exact ⟨1, rfl⟩
  rw [if_neg c2] at h
  by_cases c5 : a1 = (1 : Int32)
  · rw [if_pos c5] at h
    refine hq_tsw rfl (show _ = some 48 from by rw [c5]; decide) ?_
    refine hq_p 1 49 [some (.ref 174), some (.int a1), some (.int a2)] [.ref 174] (fun n h => rfl) ?_
    refine hq_gf (x := .ref 183) rfl rfl rfl rfl rfl ?_
    refine hq_p 2 54 [some (.ref 174), some (.int a1), some (.int a2)] [.ref 174, .int (0 : Int32), .ref 183] (fun n h => rfl) ?_
    refine hq_gf (x := .ref 176) rfl rfl rfl rfl rfl ?_
    refine hq_p 1 58 [some (.ref 174), some (.int a1), some (.int a2)] [.int (2 : Int32), .ref 176, .int (0 : Int32), .ref 183] (fun n h => rfl) ?_
    obtain ⟨x6, hx6, h⟩ := hq_bind h
    refine hq_iaload rfl rfl rfl hx6 ?_
    refine hq_p 1 60 [some (.ref 174), some (.int a1), some (.int a2)] [.int a2, .int x6, .int (0 : Int32), .ref 183] (fun n h => rfl) ?_
    obtain ⟨y7, hy7, h⟩ := hq_bind h
    refine hq_ist rfl rfl rfl (Nat.le_trans (by decide) hd) rfl (f_X12_found_run (Nat.le_sub_of_add_le (Nat.le_trans (by decide) hd)) hy7) rfl ?_
    have h := Option.some.inj h
    subst h
    exact ⟨1, rfl⟩
  rw [if_neg c5] at h
  by_cases c8 : a1 = (2 : Int32)
  · rw [if_pos c8] at h
    refine hq_tsw rfl (show _ = some 64 from by rw [c8]; decide) ?_
    refine hq_p 1 65 [some (.ref 174), some (.int a1), some (.int a2)] [.ref 174] (fun n h => rfl) ?_
    refine hq_gf (x := .ref 187) rfl rfl rfl rfl rfl ?_
    refine hq_p 2 70 [some (.ref 174), some (.int a1), some (.int a2)] [.ref 174, .int (0 : Int32), .ref 187] (fun n h => rfl) ?_
    refine hq_gf (x := .ref 176) rfl rfl rfl rfl rfl ?_
    refine hq_p 1 74 [some (.ref 174), some (.int a1), some (.int a2)] [.int (3 : Int32), .ref 176, .int (0 : Int32), .ref 187] (fun n h => rfl) ?_
    obtain ⟨x9, hx9, h⟩ := hq_bind h
    refine hq_iaload rfl rfl rfl hx9 ?_
    refine hq_p 1 76 [some (.ref 174), some (.int a1), some (.int a2)] [.int a2, .int x9, .int (0 : Int32), .ref 187] (fun n h => rfl) ?_
    obtain ⟨y10, hy10, h⟩ := hq_bind h
    refine hq_ist rfl rfl rfl (Nat.le_trans (by decide) hd) rfl (f_X12_found_run (Nat.le_sub_of_add_le (Nat.le_trans (by decide) hd)) hy10) rfl ?_
    have h := Option.some.inj h
    subst h
    exact ⟨1, rfl⟩
  rw [if_neg c8] at h
  refine hq_tsw rfl (hq_tsw_d [(0 : Int32), (1 : Int32), (2 : Int32)] (by decide) rfl ⟨c2, c5, c8, trivial⟩) ?_
  refine hq_icn (-1 : Int32) rfl (by decide) ?_
  have h := Option.some.inj h
  subst h
  exact ⟨1, rfl⟩
def f_X12_is (n : Nat) (a0 : Int32) (s : hq_S) : Option (Int64 × hq_S) := if a0 = 0 then some ((0 : Int64), s) else some ((1 : Int64), s)
theorem f_X12_is_run {xs : List Int32} {n d g : Nat} {a0 : Int32} {s : hq_S} {y : (Int64 × hq_S)} (hd : 0 ≤ d) (h : f_X12_is n a0 s = some y) : hq_R (mm_O xs) d mc_X12_is 0 [some (.int a0)] [] s g (some (.long y.1)) y.2 := by
  unfold f_X12_is at h
  refine hq_p 1 1 [some (.int a0)] [.int a0] (fun n h => rfl) ?_
  by_cases c1 : a0 = 0
  · rw [if_pos c1] at h
    refine hq_izT rfl (hq_c_eq_T c1) ?_
    refine hq_p 1 9 [some (.int a0)] [.long (0 : Int64)] (fun n h => rfl) ?_
    have h := Option.some.inj h
    subst h
    exact ⟨1, rfl⟩
  · rw [if_neg c1] at h
    refine hq_izF rfl (hq_c_eq_F c1) ?_
    refine hq_p 2 9 [some (.int a0)] [.long (1 : Int64)] (fun n h => rfl) ?_
    have h := Option.some.inj h
    subst h
    exact ⟨1, rfl⟩
