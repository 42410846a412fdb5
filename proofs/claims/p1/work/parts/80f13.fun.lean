def f_X12_drunk_J41 (n : Nat) (a1 : Int32) (a2 : Int32) (a3 : Int32) (a4 : Int32) (s : hq_S) : Option (Int64 × hq_S) := some ((-1 : Int64), s)
theorem f_X12_drunk_J41_run {xs : List Int32} {n d g : Nat} {a1 : Int32} {a2 : Int32} {a3 : Int32} {a4 : Int32} {s : hq_S} {y : (Int64 × hq_S)} (hd : 2 ≤ d) (h : f_X12_drunk_J41 n a1 a2 a3 a4 s = some y) : hq_R (mm_O xs) d mc_X12_drunk 41 [some (.ref 174), some (.int a1), some (.int a2), some (.int a3), some (.int a4), none, none, none, none, none, none, none, none] [] s g (some (.long y.1)) y.2 := by
  unfold f_X12_drunk_J41 at h
  refine hq_lc2 (-1 : Int64) rfl (by decide) ?_
  have h := Option.some.inj h
  subst h
  exact ⟨1, rfl⟩
def f_X12_drunk_L232_B (n : Nat) (q90 : Int32 → Int32 → Int32 → Int32 → Int64 → Int32 → hq_S → Option (Int64 × hq_S)) (q232 : Int32 → Int32 → Int32 → Int32 → Int64 → Int32 → Int32 → hq_S → Option (Int64 × hq_S)) (a1 : Int32) (a2 : Int32) (a3 : Int32) (a4 : Int32) (j5 : Int64) (a7 : Int32) (a8 : Int32) (s : hq_S) : Option (Int64 × hq_S) := if a8 < (10 : Int32) then (hq_ldj s 221 20 ((10 : Int32) + a8)).bind fun x23 => (hq_stj s 221 20 a8 x23).bind fun s24 => q232 a1 a2 a3 a4 j5 a7 (a8 + (1 : Int32)) s24 else q90 a1 a2 a3 a4 j5 (a7 + (1 : Int32)) s
def f_X12_drunk_L232 (n : Nat) (q90 : Int32 → Int32 → Int32 → Int32 → Int64 → Int32 → hq_S → Option (Int64 × hq_S)) (m : Nat) : Int32 → Int32 → Int32 → Int32 → Int64 → Int32 → Int32 → hq_S → Option (Int64 × hq_S) := Nat.rec (fun _ _ _ _ _ _ _ _ => none) (fun _ q => f_X12_drunk_L232_B n q90 q) m
theorem f_X12_drunk_L232_Brun {xs : List Int32} {n d g : Nat} {a1 : Int32} {a2 : Int32} {a3 : Int32} {a4 : Int32} {j5 : Int64} {a7 : Int32} {a8 : Int32} {o9 : Option Value} {o10 : Option Value} {o12 : Option Value} {q90 : Int32 → Int32 → Int32 → Int32 → Int64 → Int32 → hq_S → Option (Int64 × hq_S)} {q232 : Int32 → Int32 → Int32 → Int32 → Int64 → Int32 → Int32 → hq_S → Option (Int64 × hq_S)} {s : hq_S} {y : (Int64 × hq_S)} (hd : 2 ≤ d) (e90 : ∀ (a1 : Int32) (a2 : Int32) (a3 : Int32) (a4 : Int32) (j5 : Int64) (a7 : Int32) (o8 : Option Value) (o9 : Option Value) (o10 : Option Value) (o12 : Option Value) (s : hq_S), q90 a1 a2 a3 a4 j5 a7 s = some y → hq_R (mm_O xs) d mc_X12_drunk 90 [some (.ref 174), some (.int a1), some (.int a2), some (.int a3), some (.int a4), some (.long j5), none, some (.int a7), o8, o9, o10, none, o12] [] s g (some (.long y.1)) y.2) (e232 : ∀ (a1 : Int32) (a2 : Int32) (a3 : Int32) (a4 : Int32) (j5 : Int64) (a7 : Int32) (a8 : Int32) (o9 : Option Value) (o10 : Option Value) (o12 : Option Value) (s : hq_S), q232 a1 a2 a3 a4 j5 a7 a8 s = some y → hq_R (mm_O xs) d mc_X12_drunk 232 [some (.ref 174), some (.int a1), some (.int a2), some (.int a3), some (.int a4), some (.long j5), none, some (.int a7), some (.int a8), o9, o10, none, o12] [] s g (some (.long y.1)) y.2) (h : f_X12_drunk_L232_B n q90 q232 a1 a2 a3 a4 j5 a7 a8 s = some y) : hq_R (mm_O xs) d mc_X12_drunk 232 [some (.ref 174), some (.int a1), some (.int a2), some (.int a3), some (.int a4), some (.long j5), none, some (.int a7), some (.int a8), o9, o10, none, o12] [] s g (some (.long y.1)) y.2 := by
  unfold f_X12_drunk_L232_B at h
  refine hq_p 2 236 [some (.ref 174), some (.int a1), some (.int a2), some (.int a3), some (.int a4), some (.long j5), none, some (.int a7), some (.int a8), o9, o10, none, o12] [.int (10 : Int32), .int a8] (fun n h => rfl) ?_
  by_cases c22 : a8 < (10 : Int32)
  · rw [if_pos c22] at h
    refine hq_icF rfl (hq_c_ge_F c22) ?_
    refine hq_p 1 240 [some (.ref 174), some (.int a1), some (.int a2), some (.int a3), some (.int a4), some (.long j5), none, some (.int a7), some (.int a8), o9, o10, none, o12] [.ref 174] (fun n h => rfl) ?_
    refine hq_gf (x := .ref 221) rfl rfl rfl rfl rfl ?_
    refine hq_p 2 246 [some (.ref 174), some (.int a1), some (.int a2), some (.int a3), some (.int a4), some (.long j5), none, some (.int a7), some (.int a8), o9, o10, none, o12] [.ref 174, .int a8, .ref 221] (fun n h => rfl) ?_
    refine hq_gf (x := .ref 221) rfl rfl rfl rfl rfl ?_
    refine hq_p 3 254 [some (.ref 174), some (.int a1), some (.int a2), some (.int a3), some (.int a4), some (.long j5), none, some (.int a7), some (.int a8), o9, o10, none, o12] [.int ((10 : Int32) + a8), .ref 221, .int a8, .ref 221] (fun n h => rfl) ?_
    obtain ⟨x23, hx23, h⟩ := hq_bind h
    refine hq_laload rfl rfl List.length_replicate hx23 ?_
    obtain ⟨s24, hs24, h⟩ := hq_bind h
    refine hq_lastore rfl rfl List.length_replicate hs24 ?_
    refine hq_p 2 232 [some (.ref 174), some (.int a1), some (.int a2), some (.int a3), some (.int a4), some (.long j5), none, some (.int a7), some (.int (a8 + (1 : Int32))), o9, o10, none, o12] [] (fun n h => rfl) ?_
    exact e232 a1 a2 a3 a4 j5 a7 (a8 + (1 : Int32)) _ _ _ s24 h
  · rw [if_neg c22] at h
    refine hq_icT rfl (hq_c_ge_T c22) ?_
    refine hq_p 2 90 [some (.ref 174), some (.int a1), some (.int a2), some (.int a3), some (.int a4), some (.long j5), none, some (.int (a7 + (1 : Int32))), some (.int a8), o9, o10, none, o12] [] (fun n h => rfl) ?_
    exact e90 a1 a2 a3 a4 j5 (a7 + (1 : Int32)) _ _ _ _ s h
theorem f_X12_drunk_L232_run {xs : List Int32} {n m d g : Nat} {a1 : Int32} {a2 : Int32} {a3 : Int32} {a4 : Int32} {j5 : Int64} {a7 : Int32} {a8 : Int32} {o9 : Option Value} {o10 : Option Value} {o12 : Option Value} {q90 : Int32 → Int32 → Int32 → Int32 → Int64 → Int32 → hq_S → Option (Int64 × hq_S)} {s : hq_S} {y : (Int64 × hq_S)} (hd : 2 ≤ d) (e90 : ∀ (a1 : Int32) (a2 : Int32) (a3 : Int32) (a4 : Int32) (j5 : Int64) (a7 : Int32) (o8 : Option Value) (o9 : Option Value) (o10 : Option Value) (o12 : Option Value) (s : hq_S), q90 a1 a2 a3 a4 j5 a7 s = some y → hq_R (mm_O xs) d mc_X12_drunk 90 [some (.ref 174), some (.int a1), some (.int a2), some (.int a3), some (.int a4), some (.long j5), none, some (.int a7), o8, o9, o10, none, o12] [] s g (some (.long y.1)) y.2) (h : f_X12_drunk_L232 n q90 m a1 a2 a3 a4 j5 a7 a8 s = some y) : hq_R (mm_O xs) d mc_X12_drunk 232 [some (.ref 174), some (.int a1), some (.int a2), some (.int a3), some (.int a4), some (.long j5), none, some (.int a7), some (.int a8), o9, o10, none, o12] [] s g (some (.long y.1)) y.2 := by
  induction m generalizing a1 a2 a3 a4 j5 a7 a8 o9 o10 o12 s with
  | zero => cases h
  | succ m ih => exact f_X12_drunk_L232_Brun (n := n) hd e90 (fun a1 a2 a3 a4 j5 a7 a8 o9 o10 o12 s h => ih h) h
def f_X12_drunk_L176_B (n : Nat) (q90 : Int32 → Int32 → Int32 → Int32 → Int64 → Int32 → hq_S → Option (Int64 × hq_S)) (q134 : Int32 → Int32 → Int32 → Int32 → Int64 → Int32 → Int32 → hq_S → Option (Int64 × hq_S)) (q176 : Int32 → Int32 → Int32 → Int32 → Int64 → Int32 → Int32 → Int32 → Int64 → Int32 → hq_S → Option (Int64 × hq_S)) (a1 : Int32) (a2 : Int32) (a3 : Int32) (a4 : Int32) (j5 : Int64) (a7 : Int32) (a8 : Int32) (a9 : Int32) (j10 : Int64) (a12 : Int32) (s : hq_S) : Option (Int64 × hq_S) := (hq_ld s 176 14 (0 : Int32)).bind fun x29 => if a12 < x29 then (hq_ldj s 221 20 ((10 : Int32) + a12)).bind fun x31 => (if ((a9 >>> (a12 &&& 31)) &&& (1 : Int32)) = (1 : Int32) then some j10 else some (0 : Int64)).bind fun z32 => (hq_stj s 221 20 ((10 : Int32) + a12) (x31 + z32)).bind fun s34 => q176 a1 a2 a3 a4 j5 a7 a8 a9 j10 (a12 + (1 : Int32)) s34 else q134 a1 a2 a3 a4 j5 a7 (a8 + (1 : Int32)) s
def f_X12_drunk_L176 (n : Nat) (q90 : Int32 → Int32 → Int32 → Int32 → Int64 → Int32 → hq_S → Option (Int64 × hq_S)) (q134 : Int32 → Int32 → Int32 → Int32 → Int64 → Int32 → Int32 → hq_S → Option (Int64 × hq_S)) (m : Nat) : Int32 → Int32 → Int32 → Int32 → Int64 → Int32 → Int32 → Int32 → Int64 → Int32 → hq_S → Option (Int64 × hq_S) := Nat.rec (fun _ _ _ _ _ _ _ _ _ _ _ => none) (fun _ q => f_X12_drunk_L176_B n q90 q134 q) m
theorem f_X12_drunk_L176_Brun {xs : List Int32} {n d g : Nat} {a1 : Int32} {a2 : Int32} {a3 : Int32} {a4 : Int32} {j5 : Int64} {a7 : Int32} {a8 : Int32} {a9 : Int32} {j10 : Int64} {a12 : Int32} {q90 : Int32 → Int32 → Int32 → Int32 → Int64 → Int32 → hq_S → Option (Int64 × hq_S)} {q134 : Int32 → Int32 → Int32 → Int32 → Int64 → Int32 → Int32 → hq_S → Option (Int64 × hq_S)} {q176 : Int32 → Int32 → Int32 → Int32 → Int64 → Int32 → Int32 → Int32 → Int64 → Int32 → hq_S → Option (Int64 × hq_S)} {s : hq_S} {y : (Int64 × hq_S)} (hd : 2 ≤ d) (e90 : ∀ (a1 : Int32) (a2 : Int32) (a3 : Int32) (a4 : Int32) (j5 : Int64) (a7 : Int32) (o8 : Option Value) (o9 : Option Value) (o10 : Option Value) (o12 : Option Value) (s : hq_S), q90 a1 a2 a3 a4 j5 a7 s = some y → hq_R (mm_O xs) d mc_X12_drunk 90 [some (.ref 174), some (.int a1), some (.int a2), some (.int a3), some (.int a4), some (.long j5), none, some (.int a7), o8, o9, o10, none, o12] [] s g (some (.long y.1)) y.2) (e134 : ∀ (a1 : Int32) (a2 : Int32) (a3 : Int32) (a4 : Int32) (j5 : Int64) (a7 : Int32) (a8 : Int32) (o9 : Option Value) (o10 : Option Value) (o12 : Option Value) (s : hq_S), q134 a1 a2 a3 a4 j5 a7 a8 s = some y → hq_R (mm_O xs) d mc_X12_drunk 134 [some (.ref 174), some (.int a1), some (.int a2), some (.int a3), some (.int a4), some (.long j5), none, some (.int a7), some (.int a8), o9, o10, none, o12] [] s g (some (.long y.1)) y.2) (e176 : ∀ (a1 : Int32) (a2 : Int32) (a3 : Int32) (a4 : Int32) (j5 : Int64) (a7 : Int32) (a8 : Int32) (a9 : Int32) (j10 : Int64) (a12 : Int32) (s : hq_S), q176 a1 a2 a3 a4 j5 a7 a8 a9 j10 a12 s = some y → hq_R (mm_O xs) d mc_X12_drunk 176 [some (.ref 174), some (.int a1), some (.int a2), some (.int a3), some (.int a4), some (.long j5), none, some (.int a7), some (.int a8), some (.int a9), some (.long j10), none, some (.int a12)] [] s g (some (.long y.1)) y.2) (h : f_X12_drunk_L176_B n q90 q134 q176 a1 a2 a3 a4 j5 a7 a8 a9 j10 a12 s = some y) : hq_R (mm_O xs) d mc_X12_drunk 176 [some (.ref 174), some (.int a1), some (.int a2), some (.int a3), some (.int a4), some (.long j5), none, some (.int a7), some (.int a8), some (.int a9), some (.long j10), none, some (.int a12)] [] s g (some (.long y.1)) y.2 := by
  unfold f_X12_drunk_L176_B at h
  refine hq_p 2 179 [some (.ref 174), some (.int a1), some (.int a2), some (.int a3), some (.int a4), some (.long j5), none, some (.int a7), some (.int a8), some (.int a9), some (.long j10), none, some (.int a12)] [.ref 174, .int a12] (fun n h => rfl) ?_
  refine hq_gf (x := .ref 176) rfl rfl rfl rfl rfl ?_
  refine hq_p 1 183 [some (.ref 174), some (.int a1), some (.int a2), some (.int a3), some (.int a4), some (.long j5), none, some (.int a7), some (.int a8), some (.int a9), some (.long j10), none, some (.int a12)] [.int (0 : Int32), .ref 176, .int a12] (fun n h => rfl) ?_
  obtain ⟨x29, hx29, h⟩ := hq_bind h
  refine hq_iaload rfl rfl rfl hx29 ?_
  by_cases c30 : a12 < x29
  · rw [if_pos c30] at h
    refine hq_icF rfl (hq_c_ge_F c30) ?_
    refine hq_p 1 188 [some (.ref 174), some (.int a1), some (.int a2), some (.int a3), some (.int a4), some (.long j5), none, some (.int a7), some (.int a8), some (.int a9), some (.long j10), none, some (.int a12)] [.ref 174] (fun n h => rfl) ?_
    refine hq_gf (x := .ref 221) rfl rfl rfl rfl rfl ?_
    refine hq_p 4 197 [some (.ref 174), some (.int a1), some (.int a2), some (.int a3), some (.int a4), some (.long j5), none, some (.int a7), some (.int a8), some (.int a9), some (.long j10), none, some (.int a12)] [.int ((10 : Int32) + a12), .ref 221, .int ((10 : Int32) + a12), .ref 221] (fun n h => rfl) ?_
    obtain ⟨x31, hx31, h⟩ := hq_bind h
    refine hq_laload rfl rfl List.length_replicate hx31 ?_
    refine hq_p 6 206 [some (.ref 174), some (.int a1), some (.int a2), some (.int a3), some (.int a4), some (.long j5), none, some (.int a7), some (.int a8), some (.int a9), some (.long j10), none, some (.int a12)] [.int (1 : Int32), .int ((a9 >>> (a12 &&& 31)) &&& (1 : Int32)), .long x31, .int ((10 : Int32) + a12), .ref 221] (fun n h => rfl) ?_
    obtain ⟨z32, hz32, h⟩ := hq_bind h
    suffices hT : hq_R (mm_O xs) d mc_X12_drunk 215 [some (.ref 174), some (.int a1), some (.int a2), some (.int a3), some (.int a4), some (.long j5), none, some (.int a7), some (.int a8), some (.int a9), some (.long j10), none, some (.int a12)] [.long z32, .long x31, .int ((10 : Int32) + a12), .ref 221] s g (some (.long y.1)) y.2 from by
      clear h
      have h := hz32
      by_cases c33 : ((a9 >>> (a12 &&& 31)) &&& (1 : Int32)) = (1 : Int32)
      · rw [if_pos c33] at h
        refine hq_icF rfl (hq_c_ne_F c33) ?_
        refine hq_p 2 215 [some (.ref 174), some (.int a1), some (.int a2), some (.int a3), some (.int a4), some (.long j5), none, some (.int a7), some (.int a8), some (.int a9), some (.long j10), none, some (.int a12)] [.long j10, .long x31, .int ((10 : Int32) + a12), .ref 221] (fun n h => rfl) ?_
        cases h
        exact hT
      · rw [if_neg c33] at h
        refine hq_icT rfl (hq_c_ne_T c33) ?_
        refine hq_p 1 215 [some (.ref 174), some (.int a1), some (.int a2), some (.int a3), some (.int a4), some (.long j5), none, some (.int a7), some (.int a8), some (.int a9), some (.long j10), none, some (.int a12)] [.long (0 : Int64), .long x31, .int ((10 : Int32) + a12), .ref 221] (fun n h => rfl) ?_
        cases h
        exact hT
    refine hq_p 1 216 [some (.ref 174), some (.int a1), some (.int a2), some (.int a3), some (.int a4), some (.long j5), none, some (.int a7), some (.int a8), some (.int a9), some (.long j10), none, some (.int a12)] [.long (x31 + z32), .int ((10 : Int32) + a12), .ref 221] (fun n h => rfl) ?_
    obtain ⟨s34, hs34, h⟩ := hq_bind h
    refine hq_lastore rfl rfl List.length_replicate hs34 ?_
    refine hq_p 2 176 [some (.ref 174), some (.int a1), some (.int a2), some (.int a3), some (.int a4), some (.long j5), none, some (.int a7), some (.int a8), some (.int a9), some (.long j10), none, some (.int (a12 + (1 : Int32)))] [] (fun n h => rfl) ?_
    exact e176 a1 a2 a3 a4 j5 a7 a8 a9 j10 (a12 + (1 : Int32)) s34 h
  · rw [if_neg c30] at h
    refine hq_icT rfl (hq_c_ge_T c30) ?_
    refine hq_p 2 134 [some (.ref 174), some (.int a1), some (.int a2), some (.int a3), some (.int a4), some (.long j5), none, some (.int a7), some (.int (a8 + (1 : Int32))), some (.int a9), some (.long j10), none, some (.int a12)] [] (fun n h => rfl) ?_
    exact e134 a1 a2 a3 a4 j5 a7 (a8 + (1 : Int32)) _ _ _ s h
theorem f_X12_drunk_L176_run {xs : List Int32} {n m d g : Nat} {a1 : Int32} {a2 : Int32} {a3 : Int32} {a4 : Int32} {j5 : Int64} {a7 : Int32} {a8 : Int32} {a9 : Int32} {j10 : Int64} {a12 : Int32} {q90 : Int32 → Int32 → Int32 → Int32 → Int64 → Int32 → hq_S → Option (Int64 × hq_S)} {q134 : Int32 → Int32 → Int32 → Int32 → Int64 → Int32 → Int32 → hq_S → Option (Int64 × hq_S)} {s : hq_S} {y : (Int64 × hq_S)} (hd : 2 ≤ d) (e90 : ∀ (a1 : Int32) (a2 : Int32) (a3 : Int32) (a4 : Int32) (j5 : Int64) (a7 : Int32) (o8 : Option Value) (o9 : Option Value) (o10 : Option Value) (o12 : Option Value) (s : hq_S), q90 a1 a2 a3 a4 j5 a7 s = some y → hq_R (mm_O xs) d mc_X12_drunk 90 [some (.ref 174), some (.int a1), some (.int a2), some (.int a3), some (.int a4), some (.long j5), none, some (.int a7), o8, o9, o10, none, o12] [] s g (some (.long y.1)) y.2) (e134 : ∀ (a1 : Int32) (a2 : Int32) (a3 : Int32) (a4 : Int32) (j5 : Int64) (a7 : Int32) (a8 : Int32) (o9 : Option Value) (o10 : Option Value) (o12 : Option Value) (s : hq_S), q134 a1 a2 a3 a4 j5 a7 a8 s = some y → hq_R (mm_O xs) d mc_X12_drunk 134 [some (.ref 174), some (.int a1), some (.int a2), some (.int a3), some (.int a4), some (.long j5), none, some (.int a7), some (.int a8), o9, o10, none, o12] [] s g (some (.long y.1)) y.2) (h : f_X12_drunk_L176 n q90 q134 m a1 a2 a3 a4 j5 a7 a8 a9 j10 a12 s = some y) : hq_R (mm_O xs) d mc_X12_drunk 176 [some (.ref 174), some (.int a1), some (.int a2), some (.int a3), some (.int a4), some (.long j5), none, some (.int a7), some (.int a8), some (.int a9), some (.long j10), none, some (.int a12)] [] s g (some (.long y.1)) y.2 := by
  induction m generalizing a1 a2 a3 a4 j5 a7 a8 a9 j10 a12 s with
  | zero => cases h
  | succ m ih => exact f_X12_drunk_L176_Brun (n := n) hd e90 e134 (fun a1 a2 a3 a4 j5 a7 a8 a9 j10 a12 s h => ih h) h
def f_X12_drunk_L134_B (n : Nat) (q90 : Int32 → Int32 → Int32 → Int32 → Int64 → Int32 → hq_S → Option (Int64 × hq_S)) (q134 : Int32 → Int32 → Int32 → Int32 → Int64 → Int32 → Int32 → hq_S → Option (Int64 × hq_S)) (a1 : Int32) (a2 : Int32) (a3 : Int32) (a4 : Int32) (j5 : Int64) (a7 : Int32) (a8 : Int32) (s : hq_S) : Option (Int64 × hq_S) := (hq_ld s 176 14 (0 : Int32)).bind fun x20 => if a8 < x20 then (f_X12_stayOrGo n a8 s).bind fun y25 => (hq_ldj y25.2 221 20 a8).bind fun x26 => (f_X12_bitsOf n y25.1 y25.2).bind fun y27 => (hq_ldiv (27720 : Int64) y27.1.toInt64).bind fun x28 => f_X12_drunk_L176 n q90 q134 n a1 a2 a3 a4 j5 a7 a8 y25.1 (x26 * x28) (0 : Int32) y27.2 else f_X12_drunk_L232 n q90 n a1 a2 a3 a4 j5 a7 (0 : Int32) s
def f_X12_drunk_L134 (n : Nat) (q90 : Int32 → Int32 → Int32 → Int32 → Int64 → Int32 → hq_S → Option (Int64 × hq_S)) (m : Nat) : Int32 → Int32 → Int32 → Int32 → Int64 → Int32 → Int32 → hq_S → Option (Int64 × hq_S) := Nat.rec (fun _ _ _ _ _ _ _ _ => none) (fun _ q => f_X12_drunk_L134_B n q90 q) m
theorem f_X12_drunk_L134_Brun {xs : List Int32} {n d g : Nat} {a1 : Int32} {a2 : Int32} {a3 : Int32} {a4 : Int32} {j5 : Int64} {a7 : Int32} {a8 : Int32} {o9 : Option Value} {o10 : Option Value} {o12 : Option Value} {q90 : Int32 → Int32 → Int32 → Int32 → Int64 → Int32 → hq_S → Option (Int64 × hq_S)} {q134 : Int32 → Int32 → Int32 → Int32 → Int64 → Int32 → Int32 → hq_S → Option (Int64 × hq_S)} {s : hq_S} {y : (Int64 × hq_S)} (hd : 2 ≤ d) (e90 : ∀ (a1 : Int32) (a2 : Int32) (a3 : Int32) (a4 : Int32) (j5 : Int64) (a7 : Int32) (o8 : Option Value) (o9 : Option Value) (o10 : Option Value) (o12 : Option Value) (s : hq_S), q90 a1 a2 a3 a4 j5 a7 s = some y → hq_R (mm_O xs) d mc_X12_drunk 90 [some (.ref 174), some (.int a1), some (.int a2), some (.int a3), some (.int a4), some (.long j5), none, some (.int a7), o8, o9, o10, none, o12] [] s g (some (.long y.1)) y.2) (e134 : ∀ (a1 : Int32) (a2 : Int32) (a3 : Int32) (a4 : Int32) (j5 : Int64) (a7 : Int32) (a8 : Int32) (o9 : Option Value) (o10 : Option Value) (o12 : Option Value) (s : hq_S), q134 a1 a2 a3 a4 j5 a7 a8 s = some y → hq_R (mm_O xs) d mc_X12_drunk 134 [some (.ref 174), some (.int a1), some (.int a2), some (.int a3), some (.int a4), some (.long j5), none, some (.int a7), some (.int a8), o9, o10, none, o12] [] s g (some (.long y.1)) y.2) (h : f_X12_drunk_L134_B n q90 q134 a1 a2 a3 a4 j5 a7 a8 s = some y) : hq_R (mm_O xs) d mc_X12_drunk 134 [some (.ref 174), some (.int a1), some (.int a2), some (.int a3), some (.int a4), some (.long j5), none, some (.int a7), some (.int a8), o9, o10, none, o12] [] s g (some (.long y.1)) y.2 := by
  unfold f_X12_drunk_L134_B at h
  refine hq_p 2 137 [some (.ref 174), some (.int a1), some (.int a2), some (.int a3), some (.int a4), some (.long j5), none, some (.int a7), some (.int a8), o9, o10, none, o12] [.ref 174, .int a8] (fun n h => rfl) ?_
  refine hq_gf (x := .ref 176) rfl rfl rfl rfl rfl ?_
  refine hq_p 1 141 [some (.ref 174), some (.int a1), some (.int a2), some (.int a3), some (.int a4), some (.long j5), none, some (.int a7), some (.int a8), o9, o10, none, o12] [.int (0 : Int32), .ref 176, .int a8] (fun n h => rfl) ?_
  obtain ⟨x20, hx20, h⟩ := hq_bind h
  refine hq_iaload rfl rfl rfl hx20 ?_
  by_cases c21 : a8 < x20
  · rw [if_pos c21] at h
    refine hq_icF rfl (hq_c_ge_F c21) ?_
    refine hq_p 2 148 [some (.ref 174), some (.int a1), some (.int a2), some (.int a3), some (.int a4), some (.long j5), none, some (.int a7), some (.int a8), o9, o10, none, o12] [.int a8, .ref 174] (fun n h => rfl) ?_
    obtain ⟨y25, hy25, h⟩ := hq_bind h
    refine hq_inv rfl rfl (Nat.le_trans (by decide) hd) rfl rfl (hq_rcv rfl rfl) (f_X12_stayOrGo_run (Nat.le_sub_of_add_le (Nat.le_trans (by decide) hd)) hy25) rfl ?_
    refine hq_p 2 154 [some (.ref 174), some (.int a1), some (.int a2), some (.int a3), some (.int a4), some (.long j5), none, some (.int a7), some (.int a8), some (.int y25.1), o10, none, o12] [.ref 174] (fun n h => rfl) ?_
    refine hq_gf (x := .ref 221) rfl rfl rfl rfl rfl ?_
    refine hq_p 1 159 [some (.ref 174), some (.int a1), some (.int a2), some (.int a3), some (.int a4), some (.long j5), none, some (.int a7), some (.int a8), some (.int y25.1), o10, none, o12] [.int a8, .ref 221] (fun n h => rfl) ?_
    obtain ⟨x26, hx26, h⟩ := hq_bind h
    refine hq_laload rfl rfl List.length_replicate hx26 ?_
    refine hq_lc2 (27720 : Int64) rfl (by decide) ?_
    refine hq_p 1 165 [some (.ref 174), some (.int a1), some (.int a2), some (.int a3), some (.int a4), some (.long j5), none, some (.int a7), some (.int a8), some (.int y25.1), o10, none, o12] [.int y25.1, .long (27720 : Int64), .long x26] (fun n h => rfl) ?_
    obtain ⟨y27, hy27, h⟩ := hq_bind h
    refine hq_ist rfl rfl rfl (Nat.le_trans (by decide) hd) rfl (f_X12_bitsOf_run (Nat.le_sub_of_add_le (Nat.le_trans (by decide) hd)) hy27) rfl ?_
    refine hq_p 1 169 [some (.ref 174), some (.int a1), some (.int a2), some (.int a3), some (.int a4), some (.long j5), none, some (.int a7), some (.int a8), some (.int y25.1), o10, none, o12] [.long y27.1.toInt64, .long (27720 : Int64), .long x26] (fun n h => rfl) ?_
    obtain ⟨x28, hx28, h⟩ := hq_bind h
    refine hq_ldiv_ rfl hx28 ?_
    refine hq_p 4 176 [some (.ref 174), some (.int a1), some (.int a2), some (.int a3), some (.int a4), some (.long j5), none, some (.int a7), some (.int a8), some (.int y25.1), some (.long (x26 * x28)), none, some (.int (0 : Int32))] [] (fun n h => rfl) ?_
    exact f_X12_drunk_L176_run hd e90 e134 h
  · rw [if_neg c21] at h
    refine hq_icT rfl (hq_c_ge_T c21) ?_
    refine hq_p 2 232 [some (.ref 174), some (.int a1), some (.int a2), some (.int a3), some (.int a4), some (.long j5), none, some (.int a7), some (.int (0 : Int32)), o9, o10, none, o12] [] (fun n h => rfl) ?_
    exact f_X12_drunk_L232_run hd e90 h
theorem f_X12_drunk_L134_run {xs : List Int32} {n m d g : Nat} {a1 : Int32} {a2 : Int32} {a3 : Int32} {a4 : Int32} {j5 : Int64} {a7 : Int32} {a8 : Int32} {o9 : Option Value} {o10 : Option Value} {o12 : Option Value} {q90 : Int32 → Int32 → Int32 → Int32 → Int64 → Int32 → hq_S → Option (Int64 × hq_S)} {s : hq_S} {y : (Int64 × hq_S)} (hd : 2 ≤ d) (e90 : ∀ (a1 : Int32) (a2 : Int32) (a3 : Int32) (a4 : Int32) (j5 : Int64) (a7 : Int32) (o8 : Option Value) (o9 : Option Value) (o10 : Option Value) (o12 : Option Value) (s : hq_S), q90 a1 a2 a3 a4 j5 a7 s = some y → hq_R (mm_O xs) d mc_X12_drunk 90 [some (.ref 174), some (.int a1), some (.int a2), some (.int a3), some (.int a4), some (.long j5), none, some (.int a7), o8, o9, o10, none, o12] [] s g (some (.long y.1)) y.2) (h : f_X12_drunk_L134 n q90 m a1 a2 a3 a4 j5 a7 a8 s = some y) : hq_R (mm_O xs) d mc_X12_drunk 134 [some (.ref 174), some (.int a1), some (.int a2), some (.int a3), some (.int a4), some (.long j5), none, some (.int a7), some (.int a8), o9, o10, none, o12] [] s g (some (.long y.1)) y.2 := by
  induction m generalizing a1 a2 a3 a4 j5 a7 a8 o9 o10 o12 s with
  | zero => cases h
  | succ m ih => exact f_X12_drunk_L134_Brun (n := n) hd e90 (fun a1 a2 a3 a4 j5 a7 a8 o9 o10 o12 s h => ih h) h
def f_X12_drunk_L107_B (n : Nat) (q90 : Int32 → Int32 → Int32 → Int32 → Int64 → Int32 → hq_S → Option (Int64 × hq_S)) (q107 : Int32 → Int32 → Int32 → Int32 → Int64 → Int32 → Int32 → hq_S → Option (Int64 × hq_S)) (a1 : Int32) (a2 : Int32) (a3 : Int32) (a4 : Int32) (j5 : Int64) (a7 : Int32) (a8 : Int32) (s : hq_S) : Option (Int64 × hq_S) := if a8 < (10 : Int32) then (hq_stj s 221 20 ((10 : Int32) + a8) (0 : Int64)).bind fun s35 => q107 a1 a2 a3 a4 j5 a7 (a8 + (1 : Int32)) s35 else f_X12_drunk_L134 n q90 n a1 a2 a3 a4 j5 a7 (0 : Int32) s
def f_X12_drunk_L107 (n : Nat) (q90 : Int32 → Int32 → Int32 → Int32 → Int64 → Int32 → hq_S → Option (Int64 × hq_S)) (m : Nat) : Int32 → Int32 → Int32 → Int32 → Int64 → Int32 → Int32 → hq_S → Option (Int64 × hq_S) := Nat.rec (fun _ _ _ _ _ _ _ _ => none) (fun _ q => f_X12_drunk_L107_B n q90 q) m
theorem f_X12_drunk_L107_Brun {xs : List Int32} {n d g : Nat} {a1 : Int32} {a2 : Int32} {a3 : Int32} {a4 : Int32} {j5 : Int64} {a7 : Int32} {a8 : Int32} {o9 : Option Value} {o10 : Option Value} {o12 : Option Value} {q90 : Int32 → Int32 → Int32 → Int32 → Int64 → Int32 → hq_S → Option (Int64 × hq_S)} {q107 : Int32 → Int32 → Int32 → Int32 → Int64 → Int32 → Int32 → hq_S → Option (Int64 × hq_S)} {s : hq_S} {y : (Int64 × hq_S)} (hd : 2 ≤ d) (e90 : ∀ (a1 : Int32) (a2 : Int32) (a3 : Int32) (a4 : Int32) (j5 : Int64) (a7 : Int32) (o8 : Option Value) (o9 : Option Value) (o10 : Option Value) (o12 : Option Value) (s : hq_S), q90 a1 a2 a3 a4 j5 a7 s = some y → hq_R (mm_O xs) d mc_X12_drunk 90 [some (.ref 174), some (.int a1), some (.int a2), some (.int a3), some (.int a4), some (.long j5), none, some (.int a7), o8, o9, o10, none, o12] [] s g (some (.long y.1)) y.2) (e107 : ∀ (a1 : Int32) (a2 : Int32) (a3 : Int32) (a4 : Int32) (j5 : Int64) (a7 : Int32) (a8 : Int32) (o9 : Option Value) (o10 : Option Value) (o12 : Option Value) (s : hq_S), q107 a1 a2 a3 a4 j5 a7 a8 s = some y → hq_R (mm_O xs) d mc_X12_drunk 107 [some (.ref 174), some (.int a1), some (.int a2), some (.int a3), some (.int a4), some (.long j5), none, some (.int a7), some (.int a8), o9, o10, none, o12] [] s g (some (.long y.1)) y.2) (h : f_X12_drunk_L107_B n q90 q107 a1 a2 a3 a4 j5 a7 a8 s = some y) : hq_R (mm_O xs) d mc_X12_drunk 107 [some (.ref 174), some (.int a1), some (.int a2), some (.int a3), some (.int a4), some (.long j5), none, some (.int a7), some (.int a8), o9, o10, none, o12] [] s g (some (.long y.1)) y.2 := by
  unfold f_X12_drunk_L107_B at h
  refine hq_p 2 111 [some (.ref 174), some (.int a1), some (.int a2), some (.int a3), some (.int a4), some (.long j5), none, some (.int a7), some (.int a8), o9, o10, none, o12] [.int (10 : Int32), .int a8] (fun n h => rfl) ?_
  by_cases c19 : a8 < (10 : Int32)
  · rw [if_pos c19] at h
    refine hq_icF rfl (hq_c_ge_F c19) ?_
    refine hq_p 1 115 [some (.ref 174), some (.int a1), some (.int a2), some (.int a3), some (.int a4), some (.long j5), none, some (.int a7), some (.int a8), o9, o10, none, o12] [.ref 174] (fun n h => rfl) ?_
    refine hq_gf (x := .ref 221) rfl rfl rfl rfl rfl ?_
    refine hq_p 4 124 [some (.ref 174), some (.int a1), some (.int a2), some (.int a3), some (.int a4), some (.long j5), none, some (.int a7), some (.int a8), o9, o10, none, o12] [.long (0 : Int64), .int ((10 : Int32) + a8), .ref 221] (fun n h => rfl) ?_
    obtain ⟨s35, hs35, h⟩ := hq_bind h
    refine hq_lastore rfl rfl List.length_replicate hs35 ?_
    refine hq_p 2 107 [some (.ref 174), some (.int a1), some (.int a2), some (.int a3), some (.int a4), some (.long j5), none, some (.int a7), some (.int (a8 + (1 : Int32))), o9, o10, none, o12] [] (fun n h => rfl) ?_
    exact e107 a1 a2 a3 a4 j5 a7 (a8 + (1 : Int32)) _ _ _ s35 h
  · rw [if_neg c19] at h
    refine hq_icT rfl (hq_c_ge_T c19) ?_
    refine hq_p 2 134 [some (.ref 174), some (.int a1), some (.int a2), some (.int a3), some (.int a4), some (.long j5), none, some (.int a7), some (.int (0 : Int32)), o9, o10, none, o12] [] (fun n h => rfl) ?_
    exact f_X12_drunk_L134_run hd e90 h
theorem f_X12_drunk_L107_run {xs : List Int32} {n m d g : Nat} {a1 : Int32} {a2 : Int32} {a3 : Int32} {a4 : Int32} {j5 : Int64} {a7 : Int32} {a8 : Int32} {o9 : Option Value} {o10 : Option Value} {o12 : Option Value} {q90 : Int32 → Int32 → Int32 → Int32 → Int64 → Int32 → hq_S → Option (Int64 × hq_S)} {s : hq_S} {y : (Int64 × hq_S)} (hd : 2 ≤ d) (e90 : ∀ (a1 : Int32) (a2 : Int32) (a3 : Int32) (a4 : Int32) (j5 : Int64) (a7 : Int32) (o8 : Option Value) (o9 : Option Value) (o10 : Option Value) (o12 : Option Value) (s : hq_S), q90 a1 a2 a3 a4 j5 a7 s = some y → hq_R (mm_O xs) d mc_X12_drunk 90 [some (.ref 174), some (.int a1), some (.int a2), some (.int a3), some (.int a4), some (.long j5), none, some (.int a7), o8, o9, o10, none, o12] [] s g (some (.long y.1)) y.2) (h : f_X12_drunk_L107 n q90 m a1 a2 a3 a4 j5 a7 a8 s = some y) : hq_R (mm_O xs) d mc_X12_drunk 107 [some (.ref 174), some (.int a1), some (.int a2), some (.int a3), some (.int a4), some (.long j5), none, some (.int a7), some (.int a8), o9, o10, none, o12] [] s g (some (.long y.1)) y.2 := by
  induction m generalizing a1 a2 a3 a4 j5 a7 a8 o9 o10 o12 s with
  | zero => cases h
  | succ m ih => exact f_X12_drunk_L107_Brun (n := n) hd e90 (fun a1 a2 a3 a4 j5 a7 a8 o9 o10 o12 s h => ih h) h
def f_X12_drunk_L90_B (n : Nat) (q90 : Int32 → Int32 → Int32 → Int32 → Int64 → Int32 → hq_S → Option (Int64 × hq_S)) (a1 : Int32) (a2 : Int32) (a3 : Int32) (a4 : Int32) (j5 : Int64) (a7 : Int32) (s : hq_S) : Option (Int64 × hq_S) := if a7 < a3 then f_X12_drunk_L107 n q90 n a1 a2 a3 a4 (j5 * (27720 : Int64)) a7 (0 : Int32) s else (hq_ldj s 221 20 a2).bind fun x13 => (f_X12_common n x13 j5 s).bind fun y14 => if a4 = 0 then (hq_ldj y14.2 221 20 a2).bind fun x17 => (hq_ldiv x17 y14.1).bind fun x18 => some (x18, y14.2) else (hq_ldiv j5 y14.1).bind fun x16 => some (x16, y14.2)
def f_X12_drunk_L90 (n : Nat) (m : Nat) : Int32 → Int32 → Int32 → Int32 → Int64 → Int32 → hq_S → Option (Int64 × hq_S) := Nat.rec (fun _ _ _ _ _ _ _ => none) (fun _ q => f_X12_drunk_L90_B n q) m
theorem f_X12_drunk_L90_Brun {xs : List Int32} {n d g : Nat} {a1 : Int32} {a2 : Int32} {a3 : Int32} {a4 : Int32} {j5 : Int64} {a7 : Int32} {o8 : Option Value} {o9 : Option Value} {o10 : Option Value} {o12 : Option Value} {q90 : Int32 → Int32 → Int32 → Int32 → Int64 → Int32 → hq_S → Option (Int64 × hq_S)} {s : hq_S} {y : (Int64 × hq_S)} (hd : 2 ≤ d) (e90 : ∀ (a1 : Int32) (a2 : Int32) (a3 : Int32) (a4 : Int32) (j5 : Int64) (a7 : Int32) (o8 : Option Value) (o9 : Option Value) (o10 : Option Value) (o12 : Option Value) (s : hq_S), q90 a1 a2 a3 a4 j5 a7 s = some y → hq_R (mm_O xs) d mc_X12_drunk 90 [some (.ref 174), some (.int a1), some (.int a2), some (.int a3), some (.int a4), some (.long j5), none, some (.int a7), o8, o9, o10, none, o12] [] s g (some (.long y.1)) y.2) (h : f_X12_drunk_L90_B n q90 a1 a2 a3 a4 j5 a7 s = some y) : hq_R (mm_O xs) d mc_X12_drunk 90 [some (.ref 174), some (.int a1), some (.int a2), some (.int a3), some (.int a4), some (.long j5), none, some (.int a7), o8, o9, o10, none, o12] [] s g (some (.long y.1)) y.2 := by
  unfold f_X12_drunk_L90_B at h
  refine hq_p 2 93 [some (.ref 174), some (.int a1), some (.int a2), some (.int a3), some (.int a4), some (.long j5), none, some (.int a7), o8, o9, o10, none, o12] [.int a3, .int a7] (fun n h => rfl) ?_
  by_cases c12 : a7 < a3
  · rw [if_pos c12] at h
    refine hq_icF rfl (hq_c_ge_F c12) ?_
    refine hq_p 1 98 [some (.ref 174), some (.int a1), some (.int a2), some (.int a3), some (.int a4), some (.long j5), none, some (.int a7), o8, o9, o10, none, o12] [.long j5] (fun n h => rfl) ?_
    refine hq_lc2 (27720 : Int64) rfl (by decide) ?_
    refine hq_p 4 107 [some (.ref 174), some (.int a1), some (.int a2), some (.int a3), some (.int a4), some (.long (j5 * (27720 : Int64))), none, some (.int a7), some (.int (0 : Int32)), o9, o10, none, o12] [] (fun n h => rfl) ?_
    exact f_X12_drunk_L107_run hd e90 h
  · rw [if_neg c12] at h
    refine hq_icT rfl (hq_c_ge_T c12) ?_
    refine hq_p 1 269 [some (.ref 174), some (.int a1), some (.int a2), some (.int a3), some (.int a4), some (.long j5), none, some (.int a7), o8, o9, o10, none, o12] [.ref 174] (fun n h => rfl) ?_
    refine hq_gf (x := .ref 221) rfl rfl rfl rfl rfl ?_
    refine hq_p 1 273 [some (.ref 174), some (.int a1), some (.int a2), some (.int a3), some (.int a4), some (.long j5), none, some (.int a7), o8, o9, o10, none, o12] [.int a2, .ref 221] (fun n h => rfl) ?_
    obtain ⟨x13, hx13, h⟩ := hq_bind h
    refine hq_laload rfl rfl List.length_replicate hx13 ?_
    refine hq_p 1 276 [some (.ref 174), some (.int a1), some (.int a2), some (.int a3), some (.int a4), some (.long j5), none, some (.int a7), o8, o9, o10, none, o12] [.long j5, .long x13] (fun n h => rfl) ?_
    obtain ⟨y14, hy14, h⟩ := hq_bind h
    refine hq_ist rfl rfl rfl (Nat.le_trans (by decide) hd) rfl (f_X12_common_run (Nat.le_sub_of_add_le (Nat.le_trans (by decide) hd)) hy14) rfl ?_
    refine hq_p 2 283 [some (.ref 174), some (.int a1), some (.int a2), some (.int a3), some (.int a4), some (.long j5), none, some (.long y14.1), none, o9, o10, none, o12] [.int a4] (fun n h => rfl) ?_
    by_cases c15 : a4 = 0
    · rw [if_pos c15] at h
      refine hq_izF rfl (hq_c_ne_F c15) ?_
      refine hq_p 1 287 [some (.ref 174), some (.int a1), some (.int a2), some (.int a3), some (.int a4), some (.long j5), none, some (.long y14.1), none, o9, o10, none, o12] [.ref 174] (fun n h => rfl) ?_
      refine hq_gf (x := .ref 221) rfl rfl rfl rfl rfl ?_
      refine hq_p 1 291 [some (.ref 174), some (.int a1), some (.int a2), some (.int a3), some (.int a4), some (.long j5), none, some (.long y14.1), none, o9, o10, none, o12] [.int a2, .ref 221] (fun n h => rfl) ?_
      obtain ⟨x17, hx17, h⟩ := hq_bind h
      refine hq_laload rfl rfl List.length_replicate hx17 ?_
      refine hq_p 1 294 [some (.ref 174), some (.int a1), some (.int a2), some (.int a3), some (.int a4), some (.long j5), none, some (.long y14.1), none, o9, o10, none, o12] [.long y14.1, .long x17] (fun n h => rfl) ?_
      obtain ⟨x18, hx18, h⟩ := hq_bind h
      refine hq_ldiv_ rfl hx18 ?_
      refine hq_p 1 303 [some (.ref 174), some (.int a1), some (.int a2), some (.int a3), some (.int a4), some (.long j5), none, some (.long y14.1), none, o9, o10, none, o12] [.long x18] (fun n h => rfl) ?_
      have h := Option.some.inj h
      subst h
      exact ⟨1, rfl⟩
    · rw [if_neg c15] at h
      refine hq_izT rfl (hq_c_ne_T c15) ?_
      refine hq_p 2 302 [some (.ref 174), some (.int a1), some (.int a2), some (.int a3), some (.int a4), some (.long j5), none, some (.long y14.1), none, o9, o10, none, o12] [.long y14.1, .long j5] (fun n h => rfl) ?_
      obtain ⟨x16, hx16, h⟩ := hq_bind h
      refine hq_ldiv_ rfl hx16 ?_
      have h := Option.some.inj h
      subst h
      exact ⟨1, rfl⟩
theorem f_X12_drunk_L90_run {xs : List Int32} {n m d g : Nat} {a1 : Int32} {a2 : Int32} {a3 : Int32} {a4 : Int32} {j5 : Int64} {a7 : Int32} {o8 : Option Value} {o9 : Option Value} {o10 : Option Value} {o12 : Option Value} {s : hq_S} {y : (Int64 × hq_S)} (hd : 2 ≤ d) (h : f_X12_drunk_L90 n m a1 a2 a3 a4 j5 a7 s = some y) : hq_R (mm_O xs) d mc_X12_drunk 90 [some (.ref 174), some (.int a1), some (.int a2), some (.int a3), some (.int a4), some (.long j5), none, some (.int a7), o8, o9, o10, none, o12] [] s g (some (.long y.1)) y.2 := by
  induction m generalizing a1 a2 a3 a4 j5 a7 o8 o9 o10 o12 s with
  | zero => cases h
  | succ m ih => exact f_X12_drunk_L90_Brun (n := n) hd (fun a1 a2 a3 a4 j5 a7 o8 o9 o10 o12 s h => ih h) h
def f_X12_drunk_L56_B (n : Nat) (q56 : Int32 → Int32 → Int32 → Int32 → Int64 → Int32 → hq_S → Option (Int64 × hq_S)) (a1 : Int32) (a2 : Int32) (a3 : Int32) (a4 : Int32) (j5 : Int64) (a7 : Int32) (s : hq_S) : Option (Int64 × hq_S) := if a7 < (10 : Int32) then (if a7 = a1 then some (1 : Int64) else some (0 : Int64)).bind fun z36 => (hq_stj s 221 20 a7 z36).bind fun s38 => q56 a1 a2 a3 a4 j5 (a7 + (1 : Int32)) s38 else f_X12_drunk_L90 n n a1 a2 a3 a4 j5 (0 : Int32) s
def f_X12_drunk_L56 (n : Nat) (m : Nat) : Int32 → Int32 → Int32 → Int32 → Int64 → Int32 → hq_S → Option (Int64 × hq_S) := Nat.rec (fun _ _ _ _ _ _ _ => none) (fun _ q => f_X12_drunk_L56_B n q) m
theorem f_X12_drunk_L56_Brun {xs : List Int32} {n d g : Nat} {a1 : Int32} {a2 : Int32} {a3 : Int32} {a4 : Int32} {j5 : Int64} {a7 : Int32} {q56 : Int32 → Int32 → Int32 → Int32 → Int64 → Int32 → hq_S → Option (Int64 × hq_S)} {s : hq_S} {y : (Int64 × hq_S)} (hd : 2 ≤ d) (e56 : ∀ (a1 : Int32) (a2 : Int32) (a3 : Int32) (a4 : Int32) (j5 : Int64) (a7 : Int32) (s : hq_S), q56 a1 a2 a3 a4 j5 a7 s = some y → hq_R (mm_O xs) d mc_X12_drunk 56 [some (.ref 174), some (.int a1), some (.int a2), some (.int a3), some (.int a4), some (.long j5), none, some (.int a7), none, none, none, none, none] [] s g (some (.long y.1)) y.2) (h : f_X12_drunk_L56_B n q56 a1 a2 a3 a4 j5 a7 s = some y) : hq_R (mm_O xs) d mc_X12_drunk 56 [some (.ref 174), some (.int a1), some (.int a2), some (.int a3), some (.int a4), some (.long j5), none, some (.int a7), none, none, none, none, none] [] s g (some (.long y.1)) y.2 := by
  unfold f_X12_drunk_L56_B at h
  refine hq_p 2 60 [some (.ref 174), some (.int a1), some (.int a2), some (.int a3), some (.int a4), some (.long j5), none, some (.int a7), none, none, none, none, none] [.int (10 : Int32), .int a7] (fun n h => rfl) ?_
  by_cases c11 : a7 < (10 : Int32)
  · rw [if_pos c11] at h
    refine hq_icF rfl (hq_c_ge_F c11) ?_
    refine hq_p 1 64 [some (.ref 174), some (.int a1), some (.int a2), some (.int a3), some (.int a4), some (.long j5), none, some (.int a7), none, none, none, none, none] [.ref 174] (fun n h => rfl) ?_
    refine hq_gf (x := .ref 221) rfl rfl rfl rfl rfl ?_
    refine hq_p 3 72 [some (.ref 174), some (.int a1), some (.int a2), some (.int a3), some (.int a4), some (.long j5), none, some (.int a7), none, none, none, none, none] [.int a1, .int a7, .int a7, .ref 221] (fun n h => rfl) ?_
    obtain ⟨z36, hz36, h⟩ := hq_bind h
    suffices hT : hq_R (mm_O xs) d mc_X12_drunk 80 [some (.ref 174), some (.int a1), some (.int a2), some (.int a3), some (.int a4), some (.long j5), none, some (.int a7), none, none, none, none, none] [.long z36, .int a7, .ref 221] s g (some (.long y.1)) y.2 from by
      clear h
      have h := hz36
      by_cases c37 : a7 = a1
      · rw [if_pos c37] at h
        refine hq_icF rfl (hq_c_ne_F c37) ?_
        refine hq_p 2 80 [some (.ref 174), some (.int a1), some (.int a2), some (.int a3), some (.int a4), some (.long j5), none, some (.int a7), none, none, none, none, none] [.long (1 : Int64), .int a7, .ref 221] (fun n h => rfl) ?_
        cases h
        exact hT
      · rw [if_neg c37] at h
        refine hq_icT rfl (hq_c_ne_T c37) ?_
        refine hq_p 1 80 [some (.ref 174), some (.int a1), some (.int a2), some (.int a3), some (.int a4), some (.long j5), none, some (.int a7), none, none, none, none, none] [.long (0 : Int64), .int a7, .ref 221] (fun n h => rfl) ?_
        cases h
        exact hT
    obtain ⟨s38, hs38, h⟩ := hq_bind h
    refine hq_lastore rfl rfl List.length_replicate hs38 ?_
    refine hq_p 2 56 [some (.ref 174), some (.int a1), some (.int a2), some (.int a3), some (.int a4), some (.long j5), none, some (.int (a7 + (1 : Int32))), none, none, none, none, none] [] (fun n h => rfl) ?_
    exact e56 a1 a2 a3 a4 j5 (a7 + (1 : Int32)) s38 h
  · rw [if_neg c11] at h
    refine hq_icT rfl (hq_c_ge_T c11) ?_
    refine hq_p 2 90 [some (.ref 174), some (.int a1), some (.int a2), some (.int a3), some (.int a4), some (.long j5), none, some (.int (0 : Int32)), none, none, none, none, none] [] (fun n h => rfl) ?_
    exact f_X12_drunk_L90_run hd h
theorem f_X12_drunk_L56_run {xs : List Int32} {n m d g : Nat} {a1 : Int32} {a2 : Int32} {a3 : Int32} {a4 : Int32} {j5 : Int64} {a7 : Int32} {s : hq_S} {y : (Int64 × hq_S)} (hd : 2 ≤ d) (h : f_X12_drunk_L56 n m a1 a2 a3 a4 j5 a7 s = some y) : hq_R (mm_O xs) d mc_X12_drunk 56 [some (.ref 174), some (.int a1), some (.int a2), some (.int a3), some (.int a4), some (.long j5), none, some (.int a7), none, none, none, none, none] [] s g (some (.long y.1)) y.2 := by
  induction m generalizing a1 a2 a3 a4 j5 a7 s with
  | zero => cases h
  | succ m ih => exact f_X12_drunk_L56_Brun (n := n) hd (fun a1 a2 a3 a4 j5 a7 s h => ih h) h
def f_X12_drunk (n : Nat) (a1 : Int32) (a2 : Int32) (a3 : Int32) (a4 : Int32) (s : hq_S) : Option (Int64 × hq_S) := (hq_pi s 174 0 0 (0 : Int32)).bind fun s1 => (f_X12_isCorner n a1 s1).bind fun y2 => if y2.1 = 0 then f_X12_drunk_J41 n a1 a2 a3 a4 y2.2 else (f_X12_isCorner n a2 y2.2).bind fun y4 => if y4.1 = 0 then f_X12_drunk_J41 n a1 a2 a3 a4 y4.2 else if a3 < 0 then f_X12_drunk_J41 n a1 a2 a3 a4 y4.2 else if (4 : Int32) < a3 then f_X12_drunk_J41 n a1 a2 a3 a4 y4.2 else if a4 < 0 then f_X12_drunk_J41 n a1 a2 a3 a4 y4.2 else if (1 : Int32) < a4 then f_X12_drunk_J41 n a1 a2 a3 a4 y4.2 else (f_X12_lays n (0 : Int32) y4.2).bind fun s10 => f_X12_drunk_L56 n n a1 a2 a3 a4 (1 : Int64) (0 : Int32) s10
theorem f_X12_drunk_run {xs : List Int32} {n d g : Nat} {a1 : Int32} {a2 : Int32} {a3 : Int32} {a4 : Int32} {s : hq_S} {y : (Int64 × hq_S)} (hd : 2 ≤ d) (h : f_X12_drunk n a1 a2 a3 a4 s = some y) : hq_R (mm_O xs) d mc_X12_drunk 0 [some (.ref 174), some (.int a1), some (.int a2), some (.int a3), some (.int a4), none, none, none, none, none, none, none, none] [] s g (some (.long y.1)) y.2 := by
  unfold f_X12_drunk at h
  refine hq_p 2 2 [some (.ref 174), some (.int a1), some (.int a2), some (.int a3), some (.int a4), none, none, none, none, none, none, none, none] [.int (0 : Int32), .ref 174] (fun n h => rfl) ?_
  obtain ⟨s1, hs1, h⟩ := hq_bind h
  refine hq_pfi rfl rfl rfl rfl rfl hs1 ?_
  refine hq_p 2 7 [some (.ref 174), some (.int a1), some (.int a2), some (.int a3), some (.int a4), none, none, none, none, none, none, none, none] [.int a1, .ref 174] (fun n h => rfl) ?_
  obtain ⟨y2, hy2, h⟩ := hq_bind h
  refine hq_inv rfl rfl (Nat.le_trans (by decide) hd) rfl rfl (hq_rcv rfl rfl) (f_X12_isCorner_run (Nat.le_sub_of_add_le (Nat.le_trans (by decide) hd)) hy2) rfl ?_
  by_cases c3 : y2.1 = 0
  · rw [if_pos c3] at h
    refine hq_izT rfl (hq_c_eq_T c3) ?_
    exact f_X12_drunk_J41_run hd h
  · rw [if_neg c3] at h
    refine hq_izF rfl (hq_c_eq_F c3) ?_
    refine hq_p 2 15 [some (.ref 174), some (.int a1), some (.int a2), some (.int a3), some (.int a4), none, none, none, none, none, none, none, none] [.int a2, .ref 174] (fun n h => rfl) ?_
    obtain ⟨y4, hy4, h⟩ := hq_bind h
    refine hq_inv rfl rfl (Nat.le_trans (by decide) hd) rfl rfl (hq_rcv rfl rfl) (f_X12_isCorner_run (Nat.le_sub_of_add_le (Nat.le_trans (by decide) hd)) hy4) rfl ?_
    by_cases c5 : y4.1 = 0
    · rw [if_pos c5] at h
      refine hq_izT rfl (hq_c_eq_T c5) ?_
      exact f_X12_drunk_J41_run hd h
    · rw [if_neg c5] at h
      refine hq_izF rfl (hq_c_eq_F c5) ?_
      refine hq_p 1 22 [some (.ref 174), some (.int a1), some (.int a2), some (.int a3), some (.int a4), none, none, none, none, none, none, none, none] [.int a3] (fun n h => rfl) ?_
      by_cases c6 : a3 < 0
      · rw [if_pos c6] at h
        refine hq_izT rfl (hq_c_lt_T c6) ?_
        exact f_X12_drunk_J41_run hd h
      · rw [if_neg c6] at h
        refine hq_izF rfl (hq_c_lt_F c6) ?_
        refine hq_p 2 27 [some (.ref 174), some (.int a1), some (.int a2), some (.int a3), some (.int a4), none, none, none, none, none, none, none, none] [.int (4 : Int32), .int a3] (fun n h => rfl) ?_
        by_cases c7 : (4 : Int32) < a3
        · rw [if_pos c7] at h
          refine hq_icT rfl (hq_c_gt_T c7) ?_
          exact f_X12_drunk_J41_run hd h
        · rw [if_neg c7] at h
          refine hq_icF rfl (hq_c_gt_F c7) ?_
          refine hq_p 1 32 [some (.ref 174), some (.int a1), some (.int a2), some (.int a3), some (.int a4), none, none, none, none, none, none, none, none] [.int a4] (fun n h => rfl) ?_
          by_cases c8 : a4 < 0
          · rw [if_pos c8] at h
            refine hq_izT rfl (hq_c_lt_T c8) ?_
            exact f_X12_drunk_J41_run hd h
          · rw [if_neg c8] at h
            refine hq_izF rfl (hq_c_lt_F c8) ?_
            refine hq_p 2 38 [some (.ref 174), some (.int a1), some (.int a2), some (.int a3), some (.int a4), none, none, none, none, none, none, none, none] [.int (1 : Int32), .int a4] (fun n h => rfl) ?_
            by_cases c9 : (1 : Int32) < a4
            · rw [if_pos c9] at h
              refine hq_icF rfl (hq_c_le_F c9) ?_
              exact f_X12_drunk_J41_run hd h
            · rw [if_neg c9] at h
              refine hq_icT rfl (hq_c_le_T c9) ?_
              refine hq_p 2 47 [some (.ref 174), some (.int a1), some (.int a2), some (.int a3), some (.int a4), none, none, none, none, none, none, none, none] [.int (0 : Int32), .ref 174] (fun n h => rfl) ?_
              obtain ⟨s10, hs10, h⟩ := hq_bind h
              refine hq_inv rfl rfl (Nat.le_trans (by decide) hd) rfl rfl (hq_rcv rfl rfl) (f_X12_lays_run (Nat.le_sub_of_add_le (Nat.le_trans (by decide) hd)) hs10) rfl ?_
              refine hq_p 4 56 [some (.ref 174), some (.int a1), some (.int a2), some (.int a3), some (.int a4), some (.long (1 : Int64)), none, some (.int (0 : Int32)), none, none, none, none, none] [] (fun n h => rfl) ?_
              exact f_X12_drunk_L56_run hd h
def f_X12_matches_L80_B (n : Nat) (R0 : Int32 → Int32 → Int32 → Int32 → hq_S → Option hq_S) (q80 : Int32 → Int32 → Int32 → Int32 → Int32 → hq_S → Option hq_S) (a1 : Int32) (a2 : Int32) (a3 : Int32) (a4 : Int32) (a5 : Int32) (s : hq_S) : Option hq_S := (hq_ld s 176 14 (3 : Int32)).bind fun x3 => if a5 < x3 then (if ((a2 >>> (a5 &&& 31)) &&& (1 : Int32)) = (1 : Int32) then some s else (f_X12_isFree n (0 : Int32) a5 s).bind fun y9 => if y9.1 = 0 then some y9.2 else (hq_st y9.2 222 3 a1 a5).bind fun s11 => (hq_ld s11 200 69 a1).bind fun x12 => (hq_ld s11 203 92 a5).bind fun x13 => (hq_ld s11 207 100 (((10 : Int32) * x12) + x13)).bind fun x14 => (R0 (a1 + (1 : Int32)) (a2 ||| ((1 : Int32) <<< (a5 &&& 31))) (a3 + (1 : Int32)) (a4 + x14) s11).bind fun s15 => some s15).bind fun z7 => q80 a1 a2 a3 a4 (a5 + (1 : Int32)) z7 else (hq_st s 222 3 a1 (-2 : Int32)).bind fun s5 => (R0 (a1 + (1 : Int32)) a2 a3 a4 s5).bind fun s6 => some s6
def f_X12_matches_L80 (n : Nat) (R0 : Int32 → Int32 → Int32 → Int32 → hq_S → Option hq_S) (m : Nat) : Int32 → Int32 → Int32 → Int32 → Int32 → hq_S → Option hq_S := Nat.rec (fun _ _ _ _ _ _ => none) (fun _ q => f_X12_matches_L80_B n R0 q) m
theorem f_X12_matches_L80_Brun {xs : List Int32} {n d g : Nat} {R0 : Int32 → Int32 → Int32 → Int32 → hq_S → Option hq_S} {a1 : Int32} {a2 : Int32} {a3 : Int32} {a4 : Int32} {a5 : Int32} {q80 : Int32 → Int32 → Int32 → Int32 → Int32 → hq_S → Option hq_S} {s : hq_S} {y : hq_S} (hd : 1 ≤ d) (E0 : ∀ (a1 : Int32) (a2 : Int32) (a3 : Int32) (a4 : Int32) (s : hq_S) (y : hq_S), R0 a1 a2 a3 a4 s = some y → hq_R (mm_O xs) (d - 1) mc_X12_matches 0 [some (.ref 174), some (.int a1), some (.int a2), some (.int a3), some (.int a4), none] [] s g none y) (e80 : ∀ (a1 : Int32) (a2 : Int32) (a3 : Int32) (a4 : Int32) (a5 : Int32) (s : hq_S), q80 a1 a2 a3 a4 a5 s = some y → hq_R (mm_O xs) d mc_X12_matches 80 [some (.ref 174), some (.int a1), some (.int a2), some (.int a3), some (.int a4), some (.int a5)] [] s g none y) (h : f_X12_matches_L80_B n R0 q80 a1 a2 a3 a4 a5 s = some y) : hq_R (mm_O xs) d mc_X12_matches 80 [some (.ref 174), some (.int a1), some (.int a2), some (.int a3), some (.int a4), some (.int a5)] [] s g none y := by
  unfold f_X12_matches_L80_B at h
  refine hq_p 2 83 [some (.ref 174), some (.int a1), some (.int a2), some (.int a3), some (.int a4), some (.int a5)] [.ref 174, .int a5] (fun n h => rfl) ?_
  refine hq_gf (x := .ref 176) rfl rfl rfl rfl rfl ?_
  refine hq_p 1 87 [some (.ref 174), some (.int a1), some (.int a2), some (.int a3), some (.int a4), some (.int a5)] [.int (3 : Int32), .ref 176, .int a5] (fun n h => rfl) ?_
  obtain ⟨x3, hx3, h⟩ := hq_bind h
  refine hq_iaload rfl rfl rfl hx3 ?_
  by_cases c4 : a5 < x3
  · rw [if_pos c4] at h
    refine hq_icF rfl (hq_c_ge_F c4) ?_
    refine hq_p 6 98 [some (.ref 174), some (.int a1), some (.int a2), some (.int a3), some (.int a4), some (.int a5)] [.int (1 : Int32), .int ((a2 >>> (a5 &&& 31)) &&& (1 : Int32))] (fun n h => rfl) ?_
    obtain ⟨z7, hz7, h⟩ := hq_bind h
    suffices hT : hq_R (mm_O xs) d mc_X12_matches 163 [some (.ref 174), some (.int a1), some (.int a2), some (.int a3), some (.int a4), some (.int a5)] [] z7 g none y from by
      clear h
      have h := hz7
      by_cases c8 : ((a2 >>> (a5 &&& 31)) &&& (1 : Int32)) = (1 : Int32)
      · rw [if_pos c8] at h
        refine hq_icT rfl (hq_c_eq_T c8) ?_
        cases h
        exact hT
      · rw [if_neg c8] at h
        refine hq_icF rfl (hq_c_eq_F c8) ?_
        refine hq_p 3 105 [some (.ref 174), some (.int a1), some (.int a2), some (.int a3), some (.int a4), some (.int a5)] [.int a5, .int (0 : Int32), .ref 174] (fun n h => rfl) ?_
        obtain ⟨y9, hy9, h⟩ := hq_bind h
        refine hq_inv rfl rfl (Nat.le_trans (by decide) hd) rfl rfl (hq_rcv rfl rfl) (f_X12_isFree_run (Nat.le_sub_of_add_le (Nat.le_trans (by decide) hd)) hy9) rfl ?_
        by_cases c10 : y9.1 = 0
        · rw [if_pos c10] at h
          refine hq_izF rfl (hq_c_ne_F c10) ?_
          refine hq_p 1 163 [some (.ref 174), some (.int a1), some (.int a2), some (.int a3), some (.int a4), some (.int a5)] [] (fun n h => rfl) ?_
          cases h
          exact hT
        · rw [if_neg c10] at h
          refine hq_izT rfl (hq_c_ne_T c10) ?_
          refine hq_p 1 115 [some (.ref 174), some (.int a1), some (.int a2), some (.int a3), some (.int a4), some (.int a5)] [.ref 174] (fun n h => rfl) ?_
          refine hq_gf (x := .ref 222) rfl rfl rfl rfl rfl ?_
          refine hq_p 2 121 [some (.ref 174), some (.int a1), some (.int a2), some (.int a3), some (.int a4), some (.int a5)] [.int a5, .int a1, .ref 222] (fun n h => rfl) ?_
          obtain ⟨s11, hs11, h⟩ := hq_bind h
          refine hq_iastore rfl rfl List.length_replicate hs11 ?_
          refine hq_p 14 138 [some (.ref 174), some (.int a1), some (.int a2), some (.int a3), some (.int a4), some (.int a5)] [.ref 174, .int a4, .int (a3 + (1 : Int32)), .int (a2 ||| ((1 : Int32) <<< (a5 &&& 31))), .int (a1 + (1 : Int32)), .ref 174] (fun n h => rfl) ?_
          refine hq_gf (x := .ref 207) rfl rfl rfl rfl rfl ?_
          refine hq_p 2 144 [some (.ref 174), some (.int a1), some (.int a2), some (.int a3), some (.int a4), some (.int a5)] [.ref 174, .int (10 : Int32), .ref 207, .int a4, .int (a3 + (1 : Int32)), .int (a2 ||| ((1 : Int32) <<< (a5 &&& 31))), .int (a1 + (1 : Int32)), .ref 174] (fun n h => rfl) ?_
          refine hq_gf (x := .ref 200) rfl rfl rfl rfl rfl ?_
          refine hq_p 1 148 [some (.ref 174), some (.int a1), some (.int a2), some (.int a3), some (.int a4), some (.int a5)] [.int a1, .ref 200, .int (10 : Int32), .ref 207, .int a4, .int (a3 + (1 : Int32)), .int (a2 ||| ((1 : Int32) <<< (a5 &&& 31))), .int (a1 + (1 : Int32)), .ref 174] (fun n h => rfl) ?_
          obtain ⟨x12, hx12, h⟩ := hq_bind h
          refine hq_iaload rfl rfl List.length_replicate hx12 ?_
          refine hq_p 2 151 [some (.ref 174), some (.int a1), some (.int a2), some (.int a3), some (.int a4), some (.int a5)] [.ref 174, .int ((10 : Int32) * x12), .ref 207, .int a4, .int (a3 + (1 : Int32)), .int (a2 ||| ((1 : Int32) <<< (a5 &&& 31))), .int (a1 + (1 : Int32)), .ref 174] (fun n h => rfl) ?_
          refine hq_gf (x := .ref 203) rfl rfl rfl rfl rfl ?_
          refine hq_p 1 156 [some (.ref 174), some (.int a1), some (.int a2), some (.int a3), some (.int a4), some (.int a5)] [.int a5, .ref 203, .int ((10 : Int32) * x12), .ref 207, .int a4, .int (a3 + (1 : Int32)), .int (a2 ||| ((1 : Int32) <<< (a5 &&& 31))), .int (a1 + (1 : Int32)), .ref 174] (fun n h => rfl) ?_
          obtain ⟨x13, hx13, h⟩ := hq_bind h
          refine hq_iaload rfl rfl List.length_replicate hx13 ?_
          refine hq_p 1 158 [some (.ref 174), some (.int a1), some (.int a2), some (.int a3), some (.int a4), some (.int a5)] [.int (((10 : Int32) * x12) + x13), .ref 207, .int a4, .int (a3 + (1 : Int32)), .int (a2 ||| ((1 : Int32) <<< (a5 &&& 31))), .int (a1 + (1 : Int32)), .ref 174] (fun n h => rfl) ?_
          obtain ⟨x14, hx14, h⟩ := hq_bind h
          refine hq_iaload rfl rfl List.length_replicate hx14 ?_
          refine hq_p 1 160 [some (.ref 174), some (.int a1), some (.int a2), some (.int a3), some (.int a4), some (.int a5)] [.int (a4 + x14), .int (a3 + (1 : Int32)), .int (a2 ||| ((1 : Int32) <<< (a5 &&& 31))), .int (a1 + (1 : Int32)), .ref 174] (fun n h => rfl) ?_
          obtain ⟨s15, hs15, h⟩ := hq_bind h
          refine hq_inv rfl rfl (Nat.le_trans (by decide) hd) rfl rfl (hq_rcv rfl rfl) (E0 (a1 + (1 : Int32)) (a2 ||| ((1 : Int32) <<< (a5 &&& 31))) (a3 + (1 : Int32)) (a4 + x14) _ _ hs15) rfl ?_
          cases h
          exact hT
    refine hq_p 2 80 [some (.ref 174), some (.int a1), some (.int a2), some (.int a3), some (.int a4), some (.int (a5 + (1 : Int32)))] [] (fun n h => rfl) ?_
    exact e80 a1 a2 a3 a4 (a5 + (1 : Int32)) z7 h
  · rw [if_neg c4] at h
    refine hq_icT rfl (hq_c_ge_T c4) ?_
    refine hq_p 1 170 [some (.ref 174), some (.int a1), some (.int a2), some (.int a3), some (.int a4), some (.int a5)] [.ref 174] (fun n h => rfl) ?_
    refine hq_gf (x := .ref 222) rfl rfl rfl rfl rfl ?_
    refine hq_p 1 174 [some (.ref 174), some (.int a1), some (.int a2), some (.int a3), some (.int a4), some (.int a5)] [.int a1, .ref 222] (fun n h => rfl) ?_
    refine hq_bip (-2 : Int32) rfl (by decide) ?_
    obtain ⟨s5, hs5, h⟩ := hq_bind h
    refine hq_iastore rfl rfl List.length_replicate hs5 ?_
    refine hq_p 7 185 [some (.ref 174), some (.int a1), some (.int a2), some (.int a3), some (.int a4), some (.int a5)] [.int a4, .int a3, .int a2, .int (a1 + (1 : Int32)), .ref 174] (fun n h => rfl) ?_
    obtain ⟨s6, hs6, h⟩ := hq_bind h
    refine hq_inv rfl rfl (Nat.le_trans (by decide) hd) rfl rfl (hq_rcv rfl rfl) (E0 (a1 + (1 : Int32)) a2 a3 a4 _ _ hs6) rfl ?_
    have h := Option.some.inj h
    subst h
    exact ⟨1, rfl⟩
theorem f_X12_matches_L80_run {xs : List Int32} {n m d g : Nat} {R0 : Int32 → Int32 → Int32 → Int32 → hq_S → Option hq_S} {a1 : Int32} {a2 : Int32} {a3 : Int32} {a4 : Int32} {a5 : Int32} {s : hq_S} {y : hq_S} (hd : 1 ≤ d) (E0 : ∀ (a1 : Int32) (a2 : Int32) (a3 : Int32) (a4 : Int32) (s : hq_S) (y : hq_S), R0 a1 a2 a3 a4 s = some y → hq_R (mm_O xs) (d - 1) mc_X12_matches 0 [some (.ref 174), some (.int a1), some (.int a2), some (.int a3), some (.int a4), none] [] s g none y) (h : f_X12_matches_L80 n R0 m a1 a2 a3 a4 a5 s = some y) : hq_R (mm_O xs) d mc_X12_matches 80 [some (.ref 174), some (.int a1), some (.int a2), some (.int a3), some (.int a4), some (.int a5)] [] s g none y := by
  induction m generalizing a1 a2 a3 a4 a5 s with
  | zero => cases h
  | succ m ih => exact f_X12_matches_L80_Brun (n := n) hd E0 (fun a1 a2 a3 a4 a5 s h => ih h) h
def f_X12_matches_L50_B (n : Nat) (R0 : Int32 → Int32 → Int32 → Int32 → hq_S → Option hq_S) (q50 : Int32 → Int32 → Int32 → Int32 → Int32 → hq_S → Option hq_S) (a1 : Int32) (a2 : Int32) (a3 : Int32) (a4 : Int32) (a5 : Int32) (s : hq_S) : Option hq_S := if a5 < a1 then (hq_ld s 222 3 a5).bind fun x21 => (hq_st s 223 3 a5 x21).bind fun s22 => q50 a1 a2 a3 a4 (a5 + (1 : Int32)) s22 else some s
def f_X12_matches_L50 (n : Nat) (R0 : Int32 → Int32 → Int32 → Int32 → hq_S → Option hq_S) (m : Nat) : Int32 → Int32 → Int32 → Int32 → Int32 → hq_S → Option hq_S := Nat.rec (fun _ _ _ _ _ _ => none) (fun _ q => f_X12_matches_L50_B n R0 q) m
theorem f_X12_matches_L50_Brun {xs : List Int32} {n d g : Nat} {R0 : Int32 → Int32 → Int32 → Int32 → hq_S → Option hq_S} {a1 : Int32} {a2 : Int32} {a3 : Int32} {a4 : Int32} {a5 : Int32} {q50 : Int32 → Int32 → Int32 → Int32 → Int32 → hq_S → Option hq_S} {s : hq_S} {y : hq_S} (hd : 1 ≤ d) (E0 : ∀ (a1 : Int32) (a2 : Int32) (a3 : Int32) (a4 : Int32) (s : hq_S) (y : hq_S), R0 a1 a2 a3 a4 s = some y → hq_R (mm_O xs) (d - 1) mc_X12_matches 0 [some (.ref 174), some (.int a1), some (.int a2), some (.int a3), some (.int a4), none] [] s g none y) (e50 : ∀ (a1 : Int32) (a2 : Int32) (a3 : Int32) (a4 : Int32) (a5 : Int32) (s : hq_S), q50 a1 a2 a3 a4 a5 s = some y → hq_R (mm_O xs) d mc_X12_matches 50 [some (.ref 174), some (.int a1), some (.int a2), some (.int a3), some (.int a4), some (.int a5)] [] s g none y) (h : f_X12_matches_L50_B n R0 q50 a1 a2 a3 a4 a5 s = some y) : hq_R (mm_O xs) d mc_X12_matches 50 [some (.ref 174), some (.int a1), some (.int a2), some (.int a3), some (.int a4), some (.int a5)] [] s g none y := by
  unfold f_X12_matches_L50_B at h
  refine hq_p 2 53 [some (.ref 174), some (.int a1), some (.int a2), some (.int a3), some (.int a4), some (.int a5)] [.int a1, .int a5] (fun n h => rfl) ?_
  by_cases c20 : a5 < a1
  · rw [if_pos c20] at h
    refine hq_icF rfl (hq_c_ge_F c20) ?_
    refine hq_p 1 57 [some (.ref 174), some (.int a1), some (.int a2), some (.int a3), some (.int a4), some (.int a5)] [.ref 174] (fun n h => rfl) ?_
    refine hq_gf (x := .ref 223) rfl rfl rfl rfl rfl ?_
    refine hq_p 2 63 [some (.ref 174), some (.int a1), some (.int a2), some (.int a3), some (.int a4), some (.int a5)] [.ref 174, .int a5, .ref 223] (fun n h => rfl) ?_
    refine hq_gf (x := .ref 222) rfl rfl rfl rfl rfl ?_
    refine hq_p 1 68 [some (.ref 174), some (.int a1), some (.int a2), some (.int a3), some (.int a4), some (.int a5)] [.int a5, .ref 222, .int a5, .ref 223] (fun n h => rfl) ?_
    obtain ⟨x21, hx21, h⟩ := hq_bind h
    refine hq_iaload rfl rfl List.length_replicate hx21 ?_
    obtain ⟨s22, hs22, h⟩ := hq_bind h
    refine hq_iastore rfl rfl List.length_replicate hs22 ?_
    refine hq_p 2 50 [some (.ref 174), some (.int a1), some (.int a2), some (.int a3), some (.int a4), some (.int (a5 + (1 : Int32)))] [] (fun n h => rfl) ?_
    exact e50 a1 a2 a3 a4 (a5 + (1 : Int32)) s22 h
  · rw [if_neg c20] at h
    refine hq_icT rfl (hq_c_ge_T c20) ?_
    have h := Option.some.inj h
    subst h
    exact ⟨1, rfl⟩
theorem f_X12_matches_L50_run {xs : List Int32} {n m d g : Nat} {R0 : Int32 → Int32 → Int32 → Int32 → hq_S → Option hq_S} {a1 : Int32} {a2 : Int32} {a3 : Int32} {a4 : Int32} {a5 : Int32} {s : hq_S} {y : hq_S} (hd : 1 ≤ d) (E0 : ∀ (a1 : Int32) (a2 : Int32) (a3 : Int32) (a4 : Int32) (s : hq_S) (y : hq_S), R0 a1 a2 a3 a4 s = some y → hq_R (mm_O xs) (d - 1) mc_X12_matches 0 [some (.ref 174), some (.int a1), some (.int a2), some (.int a3), some (.int a4), none] [] s g none y) (h : f_X12_matches_L50 n R0 m a1 a2 a3 a4 a5 s = some y) : hq_R (mm_O xs) d mc_X12_matches 50 [some (.ref 174), some (.int a1), some (.int a2), some (.int a3), some (.int a4), some (.int a5)] [] s g none y := by
  induction m generalizing a1 a2 a3 a4 a5 s with
  | zero => cases h
  | succ m ih => exact f_X12_matches_L50_Brun (n := n) hd E0 (fun a1 a2 a3 a4 a5 s h => ih h) h
def f_X12_matches_J36 (n : Nat) (R0 : Int32 → Int32 → Int32 → Int32 → hq_S → Option hq_S) (a1 : Int32) (a2 : Int32) (a3 : Int32) (a4 : Int32) (s : hq_S) : Option hq_S := (hq_pi s 174 72 0 a3).bind fun s18 => (hq_pi s18 174 73 0 a4).bind fun s19 => f_X12_matches_L50 n R0 n a1 a2 a3 a4 (0 : Int32) s19
theorem f_X12_matches_J36_run {xs : List Int32} {n d g : Nat} {R0 : Int32 → Int32 → Int32 → Int32 → hq_S → Option hq_S} {a1 : Int32} {a2 : Int32} {a3 : Int32} {a4 : Int32} {s : hq_S} {y : hq_S} (hd : 1 ≤ d) (E0 : ∀ (a1 : Int32) (a2 : Int32) (a3 : Int32) (a4 : Int32) (s : hq_S) (y : hq_S), R0 a1 a2 a3 a4 s = some y → hq_R (mm_O xs) (d - 1) mc_X12_matches 0 [some (.ref 174), some (.int a1), some (.int a2), some (.int a3), some (.int a4), none] [] s g none y) (h : f_X12_matches_J36 n R0 a1 a2 a3 a4 s = some y) : hq_R (mm_O xs) d mc_X12_matches 36 [some (.ref 174), some (.int a1), some (.int a2), some (.int a3), some (.int a4), none] [] s g none y := by
  unfold f_X12_matches_J36 at h
  refine hq_p 2 38 [some (.ref 174), some (.int a1), some (.int a2), some (.int a3), some (.int a4), none] [.int a3, .ref 174] (fun n h => rfl) ?_
  obtain ⟨s18, hs18, h⟩ := hq_bind h
  refine hq_pfi rfl rfl rfl rfl rfl hs18 ?_
  refine hq_p 2 44 [some (.ref 174), some (.int a1), some (.int a2), some (.int a3), some (.int a4), none] [.int a4, .ref 174] (fun n h => rfl) ?_
  obtain ⟨s19, hs19, h⟩ := hq_bind h
  refine hq_pfi rfl rfl rfl rfl rfl hs19 ?_
  refine hq_p 2 50 [some (.ref 174), some (.int a1), some (.int a2), some (.int a3), some (.int a4), some (.int (0 : Int32))] [] (fun n h => rfl) ?_
  exact f_X12_matches_L50_run hd E0 h
def f_X12_matches_S (n : Nat) (R0 : Int32 → Int32 → Int32 → Int32 → hq_S → Option hq_S) (a1 : Int32) (a2 : Int32) (a3 : Int32) (a4 : Int32) (s : hq_S) : Option hq_S := (hq_ld s 176 14 (2 : Int32)).bind fun x1 => if a1 = x1 then if a3 < (hq_gi s 174 72) then some s else if a3 = (hq_gi s 174 72) then if a4 < (hq_gi s 174 73) then f_X12_matches_J36 n R0 a1 a2 a3 a4 s else some s else f_X12_matches_J36 n R0 a1 a2 a3 a4 s else f_X12_matches_L80 n R0 n a1 a2 a3 a4 (0 : Int32) s
theorem f_X12_matches_S_run {xs : List Int32} {n d g : Nat} {R0 : Int32 → Int32 → Int32 → Int32 → hq_S → Option hq_S} {a1 : Int32} {a2 : Int32} {a3 : Int32} {a4 : Int32} {s : hq_S} {y : hq_S} (hd : 1 ≤ d) (E0 : ∀ (a1 : Int32) (a2 : Int32) (a3 : Int32) (a4 : Int32) (s : hq_S) (y : hq_S), R0 a1 a2 a3 a4 s = some y → hq_R (mm_O xs) (d - 1) mc_X12_matches 0 [some (.ref 174), some (.int a1), some (.int a2), some (.int a3), some (.int a4), none] [] s g none y) (h : f_X12_matches_S n R0 a1 a2 a3 a4 s = some y) : hq_R (mm_O xs) d mc_X12_matches 0 [some (.ref 174), some (.int a1), some (.int a2), some (.int a3), some (.int a4), none] [] s g none y := by
  unfold f_X12_matches_S at h
  refine hq_p 2 2 [some (.ref 174), some (.int a1), some (.int a2), some (.int a3), some (.int a4), none] [.ref 174, .int a1] (fun n h => rfl) ?_
  refine hq_gf (x := .ref 176) rfl rfl rfl rfl rfl ?_
  refine hq_p 1 6 [some (.ref 174), some (.int a1), some (.int a2), some (.int a3), some (.int a4), none] [.int (2 : Int32), .ref 176, .int a1] (fun n h => rfl) ?_
  obtain ⟨x1, hx1, h⟩ := hq_bind h
  refine hq_iaload rfl rfl rfl hx1 ?_
  by_cases c2 : a1 = x1
  · rw [if_pos c2] at h
    refine hq_icF rfl (hq_c_ne_F c2) ?_
    refine hq_p 2 12 [some (.ref 174), some (.int a1), some (.int a2), some (.int a3), some (.int a4), none] [.ref 174, .int a3] (fun n h => rfl) ?_
    refine hq_gf (x := .int (hq_gi s 174 72)) rfl rfl rfl rfl rfl ?_
    by_cases c16 : a3 < (hq_gi s 174 72)
    · rw [if_pos c16] at h
      refine hq_icT rfl (hq_c_lt_T c16) ?_
      have h := Option.some.inj h
      subst h
      exact ⟨1, rfl⟩
    · rw [if_neg c16] at h
      refine hq_icF rfl (hq_c_lt_F c16) ?_
      refine hq_p 2 20 [some (.ref 174), some (.int a1), some (.int a2), some (.int a3), some (.int a4), none] [.ref 174, .int a3] (fun n h => rfl) ?_
      refine hq_gf (x := .int (hq_gi s 174 72)) rfl rfl rfl rfl rfl ?_
      by_cases c17 : a3 = (hq_gi s 174 72)
      · rw [if_pos c17] at h
        refine hq_icF rfl (hq_c_ne_F c17) ?_
        refine hq_p 2 29 [some (.ref 174), some (.int a1), some (.int a2), some (.int a3), some (.int a4), none] [.ref 174, .int a4] (fun n h => rfl) ?_
        refine hq_gf (x := .int (hq_gi s 174 73)) rfl rfl rfl rfl rfl ?_
        by_cases c23 : a4 < (hq_gi s 174 73)
        · rw [if_pos c23] at h
          refine hq_icT rfl (hq_c_lt_T c23) ?_
          exact f_X12_matches_J36_run hd E0 h
        · rw [if_neg c23] at h
          refine hq_icF rfl (hq_c_lt_F c23) ?_
          have h := Option.some.inj h
          subst h
          exact ⟨1, rfl⟩
      · rw [if_neg c17] at h
        refine hq_icT rfl (hq_c_ne_T c17) ?_
        exact f_X12_matches_J36_run hd E0 h
  · rw [if_neg c2] at h
    refine hq_icT rfl (hq_c_ne_T c2) ?_
    refine hq_p 2 80 [some (.ref 174), some (.int a1), some (.int a2), some (.int a3), some (.int a4), some (.int (0 : Int32))] [] (fun n h => rfl) ?_
    exact f_X12_matches_L80_run hd E0 h
def f_X12_matches_G (n : Nat) (k : Nat) : Nat → Int32 → Int32 → Int32 → Int32 → hq_S → Option hq_S := Nat.rec (fun _ _ _ _ _ _ => none) (fun _ R c a1 a2 a3 a4 s => match c with
  | _ => f_X12_matches_S n (R 0) a1 a2 a3 a4 s) k
theorem f_X12_matches_G_run {xs : List Int32} {n g : Nat} : ∀ (k d : Nat), k + 1 ≤ d → (∀ (a1 : Int32) (a2 : Int32) (a3 : Int32) (a4 : Int32) (s : hq_S) (y : hq_S), f_X12_matches_G n k 0 a1 a2 a3 a4 s = some y → hq_R (mm_O xs) d mc_X12_matches 0 [some (.ref 174), some (.int a1), some (.int a2), some (.int a3), some (.int a4), none] [] s g none y) := by
  intro k
  induction k with
  | zero =>
    intro d hd
    all_goals
      intros
      next h => cases h
  | succ k ih =>
    intro d hd
    have I := ih (d - 1) (by omega)
    have I0 := I
    · intro a1 a2 a3 a4 s y h
      exact f_X12_matches_S_run (by omega) I0 h
def f_X12_matches (n : Nat) (a1 : Int32) (a2 : Int32) (a3 : Int32) (a4 : Int32) (s : hq_S) : Option hq_S := f_X12_matches_G n 10 0 a1 a2 a3 a4 s
theorem f_X12_matches_run {xs : List Int32} {n d g : Nat} {a1 : Int32} {a2 : Int32} {a3 : Int32} {a4 : Int32} {s : hq_S} {y : hq_S} (hd : 11 ≤ d) (h : f_X12_matches n a1 a2 a3 a4 s = some y) : hq_R (mm_O xs) d mc_X12_matches 0 [some (.ref 174), some (.int a1), some (.int a2), some (.int a3), some (.int a4), none] [] s g none y := (f_X12_matches_G_run 10 d hd) a1 a2 a3 a4 s y h
def f_X12_match (n : Nat) (a1 : Int32) (s : hq_S) : Option (Int32 × hq_S) := (hq_pi s 174 0 0 (0 : Int32)).bind fun s1 => if a1 < 0 then some ((-1 : Int32), s1) else if (4 : Int32) < a1 then some ((-1 : Int32), s1) else (f_X12_lays n (0 : Int32) s1).bind fun s4 => (hq_pi s4 174 72 0 (-1 : Int32)).bind fun s5 => (hq_pi s5 174 73 0 (0 : Int32)).bind fun s6 => (f_X12_matches n (0 : Int32) (0 : Int32) (0 : Int32) (0 : Int32) s6).bind fun s7 => if a1 = (3 : Int32) then some ((hq_gi s7 174 72), s7) else if a1 = (4 : Int32) then some ((hq_gi s7 174 73), s7) else (hq_ld s7 176 14 (2 : Int32)).bind fun x10 => if a1 < x10 then (hq_ld s7 223 3 a1).bind fun x12 => some (x12, s7) else some ((-2 : Int32), s7)
theorem f_X12_match_run {xs : List Int32} {n d g : Nat} {a1 : Int32} {s : hq_S} {y : (Int32 × hq_S)} (hd : 12 ≤ d) (h : f_X12_match n a1 s = some y) : hq_R (mm_O xs) d mc_X12_match 0 [some (.ref 174), some (.int a1)] [] s g (some (.int y.1)) y.2 := by
  unfold f_X12_match at h
  refine hq_p 2 2 [some (.ref 174), some (.int a1)] [.int (0 : Int32), .ref 174] (fun n h => rfl) ?_
  obtain ⟨s1, hs1, h⟩ := hq_bind h
  refine hq_pfi rfl rfl rfl rfl rfl hs1 ?_
  refine hq_p 1 6 [some (.ref 174), some (.int a1)] [.int a1] (fun n h => rfl) ?_
  by_cases c2 : a1 < 0
  · rw [if_pos c2] at h
    refine hq_izT rfl (hq_c_lt_T c2) ?_
    refine hq_icn (-1 : Int32) rfl (by decide) ?_
    have h := Option.some.inj h
    subst h
    exact ⟨1, rfl⟩
  · rw [if_neg c2] at h
    refine hq_izF rfl (hq_c_lt_F c2) ?_
    refine hq_p 2 11 [some (.ref 174), some (.int a1)] [.int (4 : Int32), .int a1] (fun n h => rfl) ?_
    by_cases c3 : (4 : Int32) < a1
    · rw [if_pos c3] at h
      refine hq_icF rfl (hq_c_le_F c3) ?_
      refine hq_icn (-1 : Int32) rfl (by decide) ?_
      have h := Option.some.inj h
      subst h
      exact ⟨1, rfl⟩
    · rw [if_neg c3] at h
      refine hq_icT rfl (hq_c_le_T c3) ?_
      refine hq_p 2 18 [some (.ref 174), some (.int a1)] [.int (0 : Int32), .ref 174] (fun n h => rfl) ?_
      obtain ⟨s4, hs4, h⟩ := hq_bind h
      refine hq_inv rfl rfl (Nat.le_trans (by decide) hd) rfl rfl (hq_rcv rfl rfl) (f_X12_lays_run (Nat.le_sub_of_add_le (Nat.le_trans (by decide) hd)) hs4) rfl ?_
      refine hq_p 1 22 [some (.ref 174), some (.int a1)] [.ref 174] (fun n h => rfl) ?_
      refine hq_icn (-1 : Int32) rfl (by decide) ?_
      obtain ⟨s5, hs5, h⟩ := hq_bind h
      refine hq_pfi rfl rfl rfl rfl rfl hs5 ?_
      refine hq_p 2 28 [some (.ref 174), some (.int a1)] [.int (0 : Int32), .ref 174] (fun n h => rfl) ?_
      obtain ⟨s6, hs6, h⟩ := hq_bind h
      refine hq_pfi rfl rfl rfl rfl rfl hs6 ?_
      refine hq_p 5 36 [some (.ref 174), some (.int a1)] [.int (0 : Int32), .int (0 : Int32), .int (0 : Int32), .int (0 : Int32), .ref 174] (fun n h => rfl) ?_
      obtain ⟨s7, hs7, h⟩ := hq_bind h
      refine hq_inv rfl rfl (Nat.le_trans (by decide) hd) rfl rfl (hq_rcv rfl rfl) (f_X12_matches_run (Nat.le_sub_of_add_le (Nat.le_trans (by decide) hd)) hs7) rfl ?_
      refine hq_p 2 41 [some (.ref 174), some (.int a1)] [.int (3 : Int32), .int a1] (fun n h => rfl) ?_
      by_cases c8 : a1 = (3 : Int32)
      · rw [if_pos c8] at h
        refine hq_icF rfl (hq_c_ne_F c8) ?_
        refine hq_p 1 45 [some (.ref 174), some (.int a1)] [.ref 174] (fun n h => rfl) ?_
        refine hq_gf (x := .int (hq_gi s7 174 72)) rfl rfl rfl rfl rfl ?_
        refine hq_p 1 84 [some (.ref 174), some (.int a1)] [.int (hq_gi s7 174 72)] (fun n h => rfl) ?_
        have h := Option.some.inj h
        subst h
        exact ⟨1, rfl⟩
      · rw [if_neg c8] at h
        refine hq_icT rfl (hq_c_ne_T c8) ?_
        refine hq_p 2 53 [some (.ref 174), some (.int a1)] [.int (4 : Int32), .int a1] (fun n h => rfl) ?_
        by_cases c9 : a1 = (4 : Int32)
        · rw [if_pos c9] at h
          refine hq_icF rfl (hq_c_ne_F c9) ?_
          refine hq_p 1 57 [some (.ref 174), some (.int a1)] [.ref 174] (fun n h => rfl) ?_
          refine hq_gf (x := .int (hq_gi s7 174 73)) rfl rfl rfl rfl rfl ?_
          refine hq_p 1 84 [some (.ref 174), some (.int a1)] [.int (hq_gi s7 174 73)] (fun n h => rfl) ?_
          have h := Option.some.inj h
          subst h
          exact ⟨1, rfl⟩
        · rw [if_neg c9] at h
          refine hq_icT rfl (hq_c_ne_T c9) ?_
          refine hq_p 2 65 [some (.ref 174), some (.int a1)] [.ref 174, .int a1] (fun n h => rfl) ?_
          refine hq_gf (x := .ref 176) rfl rfl rfl rfl rfl ?_
          refine hq_p 1 69 [some (.ref 174), some (.int a1)] [.int (2 : Int32), .ref 176, .int a1] (fun n h => rfl) ?_
          obtain ⟨x10, hx10, h⟩ := hq_bind h
          refine hq_iaload rfl rfl rfl hx10 ?_
          by_cases c11 : a1 < x10
          · rw [if_pos c11] at h
            refine hq_icF rfl (hq_c_ge_F c11) ?_
            refine hq_p 1 74 [some (.ref 174), some (.int a1)] [.ref 174] (fun n h => rfl) ?_
            refine hq_gf (x := .ref 223) rfl rfl rfl rfl rfl ?_
            refine hq_p 1 78 [some (.ref 174), some (.int a1)] [.int a1, .ref 223] (fun n h => rfl) ?_
            obtain ⟨x12, hx12, h⟩ := hq_bind h
            refine hq_iaload rfl rfl List.length_replicate hx12 ?_
            refine hq_p 1 84 [some (.ref 174), some (.int a1)] [.int x12] (fun n h => rfl) ?_
            have h := Option.some.inj h
            subst h
            exact ⟨1, rfl⟩
          · rw [if_neg c11] at h
            refine hq_icT rfl (hq_c_ge_T c11) ?_
            refine hq_bip (-2 : Int32) rfl (by decide) ?_
            have h := Option.some.inj h
            subst h
            exact ⟨1, rfl⟩
def f_X12_hasOf (n : Nat) (a1 : Int32) (a2 : Int32) (a3 : Int32) (a4 : Int32) (s : hq_S) : Option (Int32 × hq_S) := if a3 = 0 then if a4 = 0 then (hq_ld s 189 8 a1).bind fun x7 => (hq_idiv x7 (4 : Int32)).bind fun x8 => some (((3 : Int32) - x8), s) else some ((5 : Int32), s) else if a4 = 0 then some ((0 : Int32), s) else (hq_ld s 204 92 a1).bind fun x3 => (hq_ld s 204 92 a2).bind fun x4 => (hq_idiv (x3 + x4) (100 : Int32)).bind fun x5 => some (((4 : Int32) + x5), s)
theorem f_X12_hasOf_run {xs : List Int32} {n d g : Nat} {a1 : Int32} {a2 : Int32} {a3 : Int32} {a4 : Int32} {s : hq_S} {y : (Int32 × hq_S)} (hd : 0 ≤ d) (h : f_X12_hasOf n a1 a2 a3 a4 s = some y) : hq_R (mm_O xs) d mc_X12_hasOf 0 [some (.ref 174), some (.int a1), some (.int a2), some (.int a3), some (.int a4)] [] s g (some (.int y.1)) y.2 := by
  unfold f_X12_hasOf at h
  refine hq_p 1 1 [some (.ref 174), some (.int a1), some (.int a2), some (.int a3), some (.int a4)] [.int a3] (fun n h => rfl) ?_
  by_cases c1 : a3 = 0
  · rw [if_pos c1] at h
    refine hq_izF rfl (hq_c_ne_F c1) ?_
    refine hq_p 1 6 [some (.ref 174), some (.int a1), some (.int a2), some (.int a3), some (.int a4)] [.int a4] (fun n h => rfl) ?_
    by_cases c6 : a4 = 0
    · rw [if_pos c6] at h
      refine hq_izF rfl (hq_c_ne_F c6) ?_
      refine hq_p 2 11 [some (.ref 174), some (.int a1), some (.int a2), some (.int a3), some (.int a4)] [.ref 174, .int (3 : Int32)] (fun n h => rfl) ?_
      refine hq_gf (x := .ref 189) rfl rfl rfl rfl rfl ?_
      refine hq_p 1 15 [some (.ref 174), some (.int a1), some (.int a2), some (.int a3), some (.int a4)] [.int a1, .ref 189, .int (3 : Int32)] (fun n h => rfl) ?_
      obtain ⟨x7, hx7, h⟩ := hq_bind h
      refine hq_iaload rfl rfl List.length_replicate hx7 ?_
      refine hq_p 1 17 [some (.ref 174), some (.int a1), some (.int a2), some (.int a3), some (.int a4)] [.int (4 : Int32), .int x7, .int (3 : Int32)] (fun n h => rfl) ?_
      obtain ⟨x8, hx8, h⟩ := hq_bind h
      refine hq_idiv_ rfl hx8 ?_
      refine hq_p 2 23 [some (.ref 174), some (.int a1), some (.int a2), some (.int a3), some (.int a4)] [.int ((3 : Int32) - x8)] (fun n h => rfl) ?_
      have h := Option.some.inj h
      subst h
      exact ⟨1, rfl⟩
    · rw [if_neg c6] at h
      refine hq_izT rfl (hq_c_ne_T c6) ?_
      refine hq_p 1 23 [some (.ref 174), some (.int a1), some (.int a2), some (.int a3), some (.int a4)] [.int (5 : Int32)] (fun n h => rfl) ?_
      have h := Option.some.inj h
      subst h
      exact ⟨1, rfl⟩
  · rw [if_neg c1] at h
    refine hq_izT rfl (hq_c_ne_T c1) ?_
    refine hq_p 1 26 [some (.ref 174), some (.int a1), some (.int a2), some (.int a3), some (.int a4)] [.int a4] (fun n h => rfl) ?_
    by_cases c2 : a4 = 0
    · rw [if_pos c2] at h
      refine hq_izF rfl (hq_c_ne_F c2) ?_
      refine hq_p 2 51 [some (.ref 174), some (.int a1), some (.int a2), some (.int a3), some (.int a4)] [.int (0 : Int32)] (fun n h => rfl) ?_
      have h := Option.some.inj h
      subst h
      exact ⟨1, rfl⟩
    · rw [if_neg c2] at h
      refine hq_izT rfl (hq_c_ne_T c2) ?_
      refine hq_p 2 35 [some (.ref 174), some (.int a1), some (.int a2), some (.int a3), some (.int a4)] [.ref 174, .int (4 : Int32)] (fun n h => rfl) ?_
      refine hq_gf (x := .ref 204) rfl rfl rfl rfl rfl ?_
      refine hq_p 1 39 [some (.ref 174), some (.int a1), some (.int a2), some (.int a3), some (.int a4)] [.int a1, .ref 204, .int (4 : Int32)] (fun n h => rfl) ?_
      obtain ⟨x3, hx3, h⟩ := hq_bind h
      refine hq_iaload rfl rfl List.length_replicate hx3 ?_
      refine hq_p 1 41 [some (.ref 174), some (.int a1), some (.int a2), some (.int a3), some (.int a4)] [.ref 174, .int x3, .int (4 : Int32)] (fun n h => rfl) ?_
      refine hq_gf (x := .ref 204) rfl rfl rfl rfl rfl ?_
      refine hq_p 1 45 [some (.ref 174), some (.int a1), some (.int a2), some (.int a3), some (.int a4)] [.int a2, .ref 204, .int x3, .int (4 : Int32)] (fun n h => rfl) ?_
      obtain ⟨x4, hx4, h⟩ := hq_bind h
      refine hq_iaload rfl rfl List.length_replicate hx4 ?_
      refine hq_p 1 47 [some (.ref 174), some (.int a1), some (.int a2), some (.int a3), some (.int a4)] [.int (x3 + x4), .int (4 : Int32)] (fun n h => rfl) ?_
      refine hq_bip (100 : Int32) rfl (by decide) ?_
      obtain ⟨x5, hx5, h⟩ := hq_bind h
      refine hq_idiv_ rfl hx5 ?_
      refine hq_p 1 51 [some (.ref 174), some (.int a1), some (.int a2), some (.int a3), some (.int a4)] [.int ((4 : Int32) + x5)] (fun n h => rfl) ?_
      have h := Option.some.inj h
      subst h
      exact ⟨1, rfl⟩
def f_X12_isRest (n : Nat) (a1 : Int32) (a2 : Int32) (a3 : Int32) (s : hq_S) : Option (Int32 × hq_S) := (hq_idiv a3 (2 : Int32)).bind fun x1 => (hq_irem a3 (2 : Int32)).bind fun x2 => (f_X12_hasOf n a1 a2 ((1 : Int32) - x1) x2 s).bind fun y3 => (f_X12_hasOf n a1 a2 x1 x2 y3.2).bind fun y4 => if y4.1 < y3.1 then some ((0 : Int32), y4.2) else (f_X12_hasOf n a2 a1 ((1 : Int32) - x2) x1 y4.2).bind fun y6 => (f_X12_hasOf n a2 a1 x2 x1 y6.2).bind fun y7 => if y7.1 < y6.1 then some ((0 : Int32), y7.2) else some ((1 : Int32), y7.2)
theorem f_X12_isRest_run {xs : List Int32} {n d g : Nat} {a1 : Int32} {a2 : Int32} {a3 : Int32} {s : hq_S} {y : (Int32 × hq_S)} (hd : 1 ≤ d) (h : f_X12_isRest n a1 a2 a3 s = some y) : hq_R (mm_O xs) d mc_X12_isRest 0 [some (.ref 174), some (.int a1), some (.int a2), some (.int a3), none, none] [] s g (some (.int y.1)) y.2 := by
  unfold f_X12_isRest at h
  refine hq_p 2 2 [some (.ref 174), some (.int a1), some (.int a2), some (.int a3), none, none] [.int (2 : Int32), .int a3] (fun n h => rfl) ?_
  obtain ⟨x1, hx1, h⟩ := hq_bind h
  refine hq_idiv_ rfl hx1 ?_
  refine hq_p 3 7 [some (.ref 174), some (.int a1), some (.int a2), some (.int a3), some (.int x1), none] [.int (2 : Int32), .int a3] (fun n h => rfl) ?_
  obtain ⟨x2, hx2, h⟩ := hq_bind h
  refine hq_irem_ rfl hx2 ?_
  refine hq_p 8 19 [some (.ref 174), some (.int a1), some (.int a2), some (.int a3), some (.int x1), some (.int x2)] [.int x2, .int ((1 : Int32) - x1), .int a2, .int a1, .ref 174] (fun n h => rfl) ?_
  obtain ⟨y3, hy3, h⟩ := hq_bind h
  refine hq_inv rfl rfl (Nat.le_trans (by decide) hd) rfl rfl (hq_rcv rfl rfl) (f_X12_hasOf_run (Nat.le_sub_of_add_le (Nat.le_trans (by decide) hd)) hy3) rfl ?_
  refine hq_p 5 29 [some (.ref 174), some (.int a1), some (.int a2), some (.int a3), some (.int x1), some (.int x2)] [.int x2, .int x1, .int a2, .int a1, .ref 174, .int y3.1] (fun n h => rfl) ?_
  obtain ⟨y4, hy4, h⟩ := hq_bind h
  refine hq_inv rfl rfl (Nat.le_trans (by decide) hd) rfl rfl (hq_rcv rfl rfl) (f_X12_hasOf_run (Nat.le_sub_of_add_le (Nat.le_trans (by decide) hd)) hy4) rfl ?_
  by_cases c5 : y4.1 < y3.1
  · rw [if_pos c5] at h
    refine hq_icT rfl (hq_c_gt_T c5) ?_
    refine hq_p 1 65 [some (.ref 174), some (.int a1), some (.int a2), some (.int a3), some (.int x1), some (.int x2)] [.int (0 : Int32)] (fun n h => rfl) ?_
    have h := Option.some.inj h
    subst h
    exact ⟨1, rfl⟩
  · rw [if_neg c5] at h
    refine hq_icF rfl (hq_c_gt_F c5) ?_
    refine hq_p 7 44 [some (.ref 174), some (.int a1), some (.int a2), some (.int a3), some (.int x1), some (.int x2)] [.int x1, .int ((1 : Int32) - x2), .int a1, .int a2, .ref 174] (fun n h => rfl) ?_
    obtain ⟨y6, hy6, h⟩ := hq_bind h
    refine hq_inv rfl rfl (Nat.le_trans (by decide) hd) rfl rfl (hq_rcv rfl rfl) (f_X12_hasOf_run (Nat.le_sub_of_add_le (Nat.le_trans (by decide) hd)) hy6) rfl ?_
    refine hq_p 5 54 [some (.ref 174), some (.int a1), some (.int a2), some (.int a3), some (.int x1), some (.int x2)] [.int x1, .int x2, .int a1, .int a2, .ref 174, .int y6.1] (fun n h => rfl) ?_
    obtain ⟨y7, hy7, h⟩ := hq_bind h
    refine hq_inv rfl rfl (Nat.le_trans (by decide) hd) rfl rfl (hq_rcv rfl rfl) (f_X12_hasOf_run (Nat.le_sub_of_add_le (Nat.le_trans (by decide) hd)) hy7) rfl ?_
    by_cases c8 : y7.1 < y6.1
    · rw [if_pos c8] at h
      refine hq_icT rfl (hq_c_gt_T c8) ?_
      refine hq_p 1 65 [some (.ref 174), some (.int a1), some (.int a2), some (.int a3), some (.int x1), some (.int x2)] [.int (0 : Int32)] (fun n h => rfl) ?_
      have h := Option.some.inj h
      subst h
      exact ⟨1, rfl⟩
    · rw [if_neg c8] at h
      refine hq_icF rfl (hq_c_gt_F c8) ?_
      refine hq_p 2 65 [some (.ref 174), some (.int a1), some (.int a2), some (.int a3), some (.int x1), some (.int x2)] [.int (1 : Int32)] (fun n h => rfl) ?_
      have h := Option.some.inj h
      subst h
      exact ⟨1, rfl⟩
def f_X12_restOf_J48 (n : Nat) (q6 : Int32 → Int32 → Int32 → Int32 → Int32 → hq_S → Option (Int32 × hq_S)) (a1 : Int32) (a2 : Int32) (a3 : Int32) (a4 : Int32) (a5 : Int32) (s : hq_S) : Option (Int32 × hq_S) := q6 a1 a2 a3 a4 (a5 + (1 : Int32)) s
theorem f_X12_restOf_J48_run {xs : List Int32} {n d g : Nat} {a1 : Int32} {a2 : Int32} {a3 : Int32} {a4 : Int32} {a5 : Int32} {q6 : Int32 → Int32 → Int32 → Int32 → Int32 → hq_S → Option (Int32 × hq_S)} {s : hq_S} {y : (Int32 × hq_S)} (hd : 2 ≤ d) (e6 : ∀ (a1 : Int32) (a2 : Int32) (a3 : Int32) (a4 : Int32) (a5 : Int32) (s : hq_S), q6 a1 a2 a3 a4 a5 s = some y → hq_R (mm_O xs) d mc_X12_restOf 6 [some (.ref 174), some (.int a1), some (.int a2), some (.int a3), some (.int a4), some (.int a5)] [] s g (some (.int y.1)) y.2) (h : f_X12_restOf_J48 n q6 a1 a2 a3 a4 a5 s = some y) : hq_R (mm_O xs) d mc_X12_restOf 48 [some (.ref 174), some (.int a1), some (.int a2), some (.int a3), some (.int a4), some (.int a5)] [] s g (some (.int y.1)) y.2 := by
  unfold f_X12_restOf_J48 at h
  refine hq_p 2 6 [some (.ref 174), some (.int a1), some (.int a2), some (.int a3), some (.int a4), some (.int (a5 + (1 : Int32)))] [] (fun n h => rfl) ?_
  exact e6 a1 a2 a3 a4 (a5 + (1 : Int32)) s h
def f_X12_restOf_L6_B (n : Nat) (q6 : Int32 → Int32 → Int32 → Int32 → Int32 → hq_S → Option (Int32 × hq_S)) (a1 : Int32) (a2 : Int32) (a3 : Int32) (a4 : Int32) (a5 : Int32) (s : hq_S) : Option (Int32 × hq_S) := if a5 < (4 : Int32) then (f_X12_isRest n a1 a2 a5 s).bind fun y3 => if y3.1 = 0 then f_X12_restOf_J48 n q6 a1 a2 a3 a4 a5 y3.2 else if a4 = a3 then (hq_idiv a5 (2 : Int32)).bind fun x6 => (hq_irem a5 (2 : Int32)).bind fun x7 => some ((((10 : Int32) * x6) + x7), y3.2) else f_X12_restOf_J48 n q6 a1 a2 a3 (a4 + (1 : Int32)) a5 y3.2 else if a3 = (-1 : Int32) then some (a4, s) else some ((-2 : Int32), s)
def f_X12_restOf_L6 (n : Nat) (m : Nat) : Int32 → Int32 → Int32 → Int32 → Int32 → hq_S → Option (Int32 × hq_S) := Nat.rec (fun _ _ _ _ _ _ => none) (fun _ q => f_X12_restOf_L6_B n q) m
theorem f_X12_restOf_L6_Brun {xs : List Int32} {n d g : Nat} {a1 : Int32} {a2 : Int32} {a3 : Int32} {a4 : Int32} {a5 : Int32} {q6 : Int32 → Int32 → Int32 → Int32 → Int32 → hq_S → Option (Int32 × hq_S)} {s : hq_S} {y : (Int32 × hq_S)} (hd : 2 ≤ d) (e6 : ∀ (a1 : Int32) (a2 : Int32) (a3 : Int32) (a4 : Int32) (a5 : Int32) (s : hq_S), q6 a1 a2 a3 a4 a5 s = some y → hq_R (mm_O xs) d mc_X12_restOf 6 [some (.ref 174), some (.int a1), some (.int a2), some (.int a3), some (.int a4), some (.int a5)] [] s g (some (.int y.1)) y.2) (h : f_X12_restOf_L6_B n q6 a1 a2 a3 a4 a5 s = some y) : hq_R (mm_O xs) d mc_X12_restOf 6 [some (.ref 174), some (.int a1), some (.int a2), some (.int a3), some (.int a4), some (.int a5)] [] s g (some (.int y.1)) y.2 := by
  unfold f_X12_restOf_L6_B at h
  refine hq_p 2 9 [some (.ref 174), some (.int a1), some (.int a2), some (.int a3), some (.int a4), some (.int a5)] [.int (4 : Int32), .int a5] (fun n h => rfl) ?_
  by_cases c1 : a5 < (4 : Int32)
  · rw [if_pos c1] at h
    refine hq_icF rfl (hq_c_ge_F c1) ?_
    refine hq_p 4 17 [some (.ref 174), some (.int a1), some (.int a2), some (.int a3), some (.int a4), some (.int a5)] [.int a5, .int a2, .int a1, .ref 174] (fun n h => rfl) ?_
    obtain ⟨y3, hy3, h⟩ := hq_bind h
    refine hq_inv rfl rfl (Nat.le_trans (by decide) hd) rfl rfl (hq_rcv rfl rfl) (f_X12_isRest_run (Nat.le_sub_of_add_le (Nat.le_trans (by decide) hd)) hy3) rfl ?_
    by_cases c4 : y3.1 = 0
    · rw [if_pos c4] at h
      refine hq_izF rfl (hq_c_ne_F c4) ?_
      refine hq_p 1 48 [some (.ref 174), some (.int a1), some (.int a2), some (.int a3), some (.int a4), some (.int a5)] [] (fun n h => rfl) ?_
      exact f_X12_restOf_J48_run hd e6 h
    · rw [if_neg c4] at h
      refine hq_izT rfl (hq_c_ne_T c4) ?_
      refine hq_p 2 29 [some (.ref 174), some (.int a1), some (.int a2), some (.int a3), some (.int a4), some (.int a5)] [.int a3, .int a4] (fun n h => rfl) ?_
      by_cases c5 : a4 = a3
      · rw [if_pos c5] at h
        refine hq_icF rfl (hq_c_ne_F c5) ?_
        refine hq_p 3 37 [some (.ref 174), some (.int a1), some (.int a2), some (.int a3), some (.int a4), some (.int a5)] [.int (2 : Int32), .int a5, .int (10 : Int32)] (fun n h => rfl) ?_
        obtain ⟨x6, hx6, h⟩ := hq_bind h
        refine hq_idiv_ rfl hx6 ?_
        refine hq_p 3 42 [some (.ref 174), some (.int a1), some (.int a2), some (.int a3), some (.int a4), some (.int a5)] [.int (2 : Int32), .int a5, .int ((10 : Int32) * x6)] (fun n h => rfl) ?_
        obtain ⟨x7, hx7, h⟩ := hq_bind h
        refine hq_irem_ rfl hx7 ?_
        refine hq_p 1 44 [some (.ref 174), some (.int a1), some (.int a2), some (.int a3), some (.int a4), some (.int a5)] [.int (((10 : Int32) * x6) + x7)] (fun n h => rfl) ?_
        have h := Option.some.inj h
        subst h
        exact ⟨1, rfl⟩
      · rw [if_neg c5] at h
        refine hq_icT rfl (hq_c_ne_T c5) ?_
        refine hq_p 1 48 [some (.ref 174), some (.int a1), some (.int a2), some (.int a3), some (.int (a4 + (1 : Int32))), some (.int a5)] [] (fun n h => rfl) ?_
        exact f_X12_restOf_J48_run hd e6 h
  · rw [if_neg c1] at h
    refine hq_icT rfl (hq_c_ge_T c1) ?_
    refine hq_p 1 55 [some (.ref 174), some (.int a1), some (.int a2), some (.int a3), some (.int a4), some (.int a5)] [.int a3] (fun n h => rfl) ?_
    refine hq_icn (-1 : Int32) rfl (by decide) ?_
    by_cases c2 : a3 = (-1 : Int32)
    · rw [if_pos c2] at h
      refine hq_icF rfl (hq_c_ne_F c2) ?_
      refine hq_p 2 66 [some (.ref 174), some (.int a1), some (.int a2), some (.int a3), some (.int a4), some (.int a5)] [.int a4] (fun n h => rfl) ?_
      have h := Option.some.inj h
      subst h
      exact ⟨1, rfl⟩
    · rw [if_neg c2] at h
      refine hq_icT rfl (hq_c_ne_T c2) ?_
      refine hq_bip (-2 : Int32) rfl (by decide) ?_
      have h := Option.some.inj h
      subst h
      exact ⟨1, rfl⟩
theorem f_X12_restOf_L6_run {xs : List Int32} {n m d g : Nat} {a1 : Int32} {a2 : Int32} {a3 : Int32} {a4 : Int32} {a5 : Int32} {s : hq_S} {y : (Int32 × hq_S)} (hd : 2 ≤ d) (h : f_X12_restOf_L6 n m a1 a2 a3 a4 a5 s = some y) : hq_R (mm_O xs) d mc_X12_restOf 6 [some (.ref 174), some (.int a1), some (.int a2), some (.int a3), some (.int a4), some (.int a5)] [] s g (some (.int y.1)) y.2 := by
  induction m generalizing a1 a2 a3 a4 a5 s with
  | zero => cases h
  | succ m ih => exact f_X12_restOf_L6_Brun (n := n) hd (fun a1 a2 a3 a4 a5 s h => ih h) h
def f_X12_restOf (n : Nat) (a1 : Int32) (a2 : Int32) (a3 : Int32) (s : hq_S) : Option (Int32 × hq_S) := f_X12_restOf_L6 n n a1 a2 a3 (0 : Int32) (0 : Int32) s
theorem f_X12_restOf_run {xs : List Int32} {n d g : Nat} {a1 : Int32} {a2 : Int32} {a3 : Int32} {s : hq_S} {y : (Int32 × hq_S)} (hd : 2 ≤ d) (h : f_X12_restOf n a1 a2 a3 s = some y) : hq_R (mm_O xs) d mc_X12_restOf 0 [some (.ref 174), some (.int a1), some (.int a2), some (.int a3), none, none] [] s g (some (.int y.1)) y.2 := by
  unfold f_X12_restOf at h
  refine hq_p 4 6 [some (.ref 174), some (.int a1), some (.int a2), some (.int a3), some (.int (0 : Int32)), some (.int (0 : Int32))] [] (fun n h => rfl) ?_
  exact f_X12_restOf_L6_run hd h
def f_X12_areTwo (n : Nat) (a1 : Int32) (a2 : Int32) (s : hq_S) : Option (Int32 × hq_S) := (f_X12_isThief n a1 s).bind fun y1 => if y1.1 = 0 then some ((0 : Int32), y1.2) else (f_X12_isThief n a2 y1.2).bind fun y3 => if y3.1 = 0 then some ((0 : Int32), y3.2) else if a1 = a2 then some ((0 : Int32), y3.2) else some ((1 : Int32), y3.2)
theorem f_X12_areTwo_run {xs : List Int32} {n d g : Nat} {a1 : Int32} {a2 : Int32} {s : hq_S} {y : (Int32 × hq_S)} (hd : 1 ≤ d) (h : f_X12_areTwo n a1 a2 s = some y) : hq_R (mm_O xs) d mc_X12_areTwo 0 [some (.ref 174), some (.int a1), some (.int a2)] [] s g (some (.int y.1)) y.2 := by
  unfold f_X12_areTwo at h
  refine hq_p 2 2 [some (.ref 174), some (.int a1), some (.int a2)] [.int a1, .ref 174] (fun n h => rfl) ?_
  obtain ⟨y1, hy1, h⟩ := hq_bind h
  refine hq_inv rfl rfl (Nat.le_trans (by decide) hd) rfl rfl (hq_rcv rfl rfl) (f_X12_isThief_run (Nat.le_sub_of_add_le (Nat.le_trans (by decide) hd)) hy1) rfl ?_
  by_cases c2 : y1.1 = 0
  · rw [if_pos c2] at h
    refine hq_izT rfl (hq_c_eq_T c2) ?_
    refine hq_p 1 26 [some (.ref 174), some (.int a1), some (.int a2)] [.int (0 : Int32)] (fun n h => rfl) ?_
    have h := Option.some.inj h
    subst h
    exact ⟨1, rfl⟩
  · rw [if_neg c2] at h
    refine hq_izF rfl (hq_c_eq_F c2) ?_
    refine hq_p 2 10 [some (.ref 174), some (.int a1), some (.int a2)] [.int a2, .ref 174] (fun n h => rfl) ?_
    obtain ⟨y3, hy3, h⟩ := hq_bind h
    refine hq_inv rfl rfl (Nat.le_trans (by decide) hd) rfl rfl (hq_rcv rfl rfl) (f_X12_isThief_run (Nat.le_sub_of_add_le (Nat.le_trans (by decide) hd)) hy3) rfl ?_
    by_cases c4 : y3.1 = 0
    · rw [if_pos c4] at h
      refine hq_izT rfl (hq_c_eq_T c4) ?_
      refine hq_p 1 26 [some (.ref 174), some (.int a1), some (.int a2)] [.int (0 : Int32)] (fun n h => rfl) ?_
      have h := Option.some.inj h
      subst h
      exact ⟨1, rfl⟩
    · rw [if_neg c4] at h
      refine hq_izF rfl (hq_c_eq_F c4) ?_
      refine hq_p 2 18 [some (.ref 174), some (.int a1), some (.int a2)] [.int a2, .int a1] (fun n h => rfl) ?_
      by_cases c5 : a1 = a2
      · rw [if_pos c5] at h
        refine hq_icT rfl (hq_c_eq_T c5) ?_
        refine hq_p 1 26 [some (.ref 174), some (.int a1), some (.int a2)] [.int (0 : Int32)] (fun n h => rfl) ?_
        have h := Option.some.inj h
        subst h
        exact ⟨1, rfl⟩
      · rw [if_neg c5] at h
        refine hq_icF rfl (hq_c_eq_F c5) ?_
        refine hq_p 2 26 [some (.ref 174), some (.int a1), some (.int a2)] [.int (1 : Int32)] (fun n h => rfl) ?_
        have h := Option.some.inj h
        subst h
        exact ⟨1, rfl⟩
def f_X12_rests (n : Nat) (a1 : Int32) (a2 : Int32) (s : hq_S) : Option (Int32 × hq_S) := (hq_pi s 174 0 0 (0 : Int32)).bind fun s1 => (f_X12_areTwo n a1 a2 s1).bind fun y2 => if y2.1 = 0 then some ((-1 : Int32), y2.2) else (f_X12_restOf n a1 a2 (-1 : Int32) y2.2).bind fun y4 => some (y4.1, y4.2)
theorem f_X12_rests_run {xs : List Int32} {n d g : Nat} {a1 : Int32} {a2 : Int32} {s : hq_S} {y : (Int32 × hq_S)} (hd : 3 ≤ d) (h : f_X12_rests n a1 a2 s = some y) : hq_R (mm_O xs) d mc_X12_rests 0 [some (.ref 174), some (.int a1), some (.int a2)] [] s g (some (.int y.1)) y.2 := by
  unfold f_X12_rests at h
  refine hq_p 2 2 [some (.ref 174), some (.int a1), some (.int a2)] [.int (0 : Int32), .ref 174] (fun n h => rfl) ?_
  obtain ⟨s1, hs1, h⟩ := hq_bind h
  refine hq_pfi rfl rfl rfl rfl rfl hs1 ?_
  refine hq_p 3 8 [some (.ref 174), some (.int a1), some (.int a2)] [.int a2, .int a1, .ref 174] (fun n h => rfl) ?_
  obtain ⟨y2, hy2, h⟩ := hq_bind h
  refine hq_inv rfl rfl (Nat.le_trans (by decide) hd) rfl rfl (hq_rcv rfl rfl) (f_X12_areTwo_run (Nat.le_sub_of_add_le (Nat.le_trans (by decide) hd)) hy2) rfl ?_
  by_cases c3 : y2.1 = 0
  · rw [if_pos c3] at h
    refine hq_izT rfl (hq_c_eq_T c3) ?_
    refine hq_icn (-1 : Int32) rfl (by decide) ?_
    have h := Option.some.inj h
    subst h
    exact ⟨1, rfl⟩
  · rw [if_neg c3] at h
    refine hq_izF rfl (hq_c_eq_F c3) ?_
    refine hq_p 3 17 [some (.ref 174), some (.int a1), some (.int a2)] [.int a2, .int a1, .ref 174] (fun n h => rfl) ?_
    refine hq_icn (-1 : Int32) rfl (by decide) ?_
    obtain ⟨y4, hy4, h⟩ := hq_bind h
    refine hq_inv rfl rfl (Nat.le_trans (by decide) hd) rfl rfl (hq_rcv rfl rfl) (f_X12_restOf_run (Nat.le_sub_of_add_le (Nat.le_trans (by decide) hd)) hy4) rfl ?_
    refine hq_p 1 25 [some (.ref 174), some (.int a1), some (.int a2)] [.int y4.1] (fun n h => rfl) ?_
    have h := Option.some.inj h
    subst h
    exact ⟨1, rfl⟩
def f_X12_rest (n : Nat) (a1 : Int32) (a2 : Int32) (a3 : Int32) (s : hq_S) : Option (Int32 × hq_S) := (hq_pi s 174 0 0 (0 : Int32)).bind fun s1 => (f_X12_areTwo n a1 a2 s1).bind fun y2 => if y2.1 = 0 then some ((-1 : Int32), y2.2) else if a3 < 0 then some ((-1 : Int32), y2.2) else (f_X12_restOf n a1 a2 a3 y2.2).bind fun y5 => some (y5.1, y5.2)
theorem f_X12_rest_run {xs : List Int32} {n d g : Nat} {a1 : Int32} {a2 : Int32} {a3 : Int32} {s : hq_S} {y : (Int32 × hq_S)} (hd : 3 ≤ d) (h : f_X12_rest n a1 a2 a3 s = some y) : hq_R (mm_O xs) d mc_X12_rest 0 [some (.ref 174), some (.int a1), some (.int a2), some (.int a3)] [] s g (some (.int y.1)) y.2 := by
  unfold f_X12_rest at h
  refine hq_p 2 2 [some (.ref 174), some (.int a1), some (.int a2), some (.int a3)] [.int (0 : Int32), .ref 174] (fun n h => rfl) ?_
  obtain ⟨s1, hs1, h⟩ := hq_bind h
  refine hq_pfi rfl rfl rfl rfl rfl hs1 ?_
  refine hq_p 3 8 [some (.ref 174), some (.int a1), some (.int a2), some (.int a3)] [.int a2, .int a1, .ref 174] (fun n h => rfl) ?_
  obtain ⟨y2, hy2, h⟩ := hq_bind h
  refine hq_inv rfl rfl (Nat.le_trans (by decide) hd) rfl rfl (hq_rcv rfl rfl) (f_X12_areTwo_run (Nat.le_sub_of_add_le (Nat.le_trans (by decide) hd)) hy2) rfl ?_
  by_cases c3 : y2.1 = 0
  · rw [if_pos c3] at h
    refine hq_izT rfl (hq_c_eq_T c3) ?_
    refine hq_icn (-1 : Int32) rfl (by decide) ?_
    have h := Option.some.inj h
    subst h
    exact ⟨1, rfl⟩
  · rw [if_neg c3] at h
    refine hq_izF rfl (hq_c_eq_F c3) ?_
    refine hq_p 1 15 [some (.ref 174), some (.int a1), some (.int a2), some (.int a3)] [.int a3] (fun n h => rfl) ?_
    by_cases c4 : a3 < 0
    · rw [if_pos c4] at h
      refine hq_izT rfl (hq_c_lt_T c4) ?_
      refine hq_icn (-1 : Int32) rfl (by decide) ?_
      have h := Option.some.inj h
      subst h
      exact ⟨1, rfl⟩
    · rw [if_neg c4] at h
      refine hq_izF rfl (hq_c_lt_F c4) ?_
      refine hq_p 4 22 [some (.ref 174), some (.int a1), some (.int a2), some (.int a3)] [.int a3, .int a2, .int a1, .ref 174] (fun n h => rfl) ?_
      obtain ⟨y5, hy5, h⟩ := hq_bind h
      refine hq_inv rfl rfl (Nat.le_trans (by decide) hd) rfl rfl (hq_rcv rfl rfl) (f_X12_restOf_run (Nat.le_sub_of_add_le (Nat.le_trans (by decide) hd)) hy5) rfl ?_
      refine hq_p 1 29 [some (.ref 174), some (.int a1), some (.int a2), some (.int a3)] [.int y5.1] (fun n h => rfl) ?_
      have h := Option.some.inj h
      subst h
      exact ⟨1, rfl⟩
def f_X12_holds_J24 (n : Nat) (a1 : Int32) (a2 : Int32) (s : hq_S) : Option (Int64 × hq_S) := some ((-1 : Int64), s)
theorem f_X12_holds_J24_run {xs : List Int32} {n d g : Nat} {a1 : Int32} {a2 : Int32} {s : hq_S} {y : (Int64 × hq_S)} (hd : 1 ≤ d) (h : f_X12_holds_J24 n a1 a2 s = some y) : hq_R (mm_O xs) d mc_X12_holds 24 [some (.ref 174), some (.int a1), some (.int a2), none, none, none, none, none, none] [] s g (some (.long y.1)) y.2 := by
  unfold f_X12_holds_J24 at h
  refine hq_lc2 (-1 : Int64) rfl (by decide) ?_
  have h := Option.some.inj h
  subst h
  exact ⟨1, rfl⟩
def f_X12_holds_L36_B (n : Nat) (q36 : Int32 → Int32 → Int64 → Int64 → Int32 → hq_S → Option (Int64 × hq_S)) (a1 : Int32) (a2 : Int32) (j3 : Int64) (j5 : Int64) (a7 : Int32) (s : hq_S) : Option (Int64 × hq_S) := if a7 < a1 then (hq_ld s 176 14 (4 : Int32)).bind fun x11 => q36 a1 a2 (j3 * x11.toInt64) (j5 * (100 : Int64)) (a7 + (1 : Int32)) s else (f_X12_common n j3 j5 s).bind fun y7 => if a2 = 0 then (hq_ldiv j3 y7.1).bind fun x10 => some (x10, y7.2) else (hq_ldiv j5 y7.1).bind fun x9 => some (x9, y7.2)
def f_X12_holds_L36 (n : Nat) (m : Nat) : Int32 → Int32 → Int64 → Int64 → Int32 → hq_S → Option (Int64 × hq_S) := Nat.rec (fun _ _ _ _ _ _ => none) (fun _ q => f_X12_holds_L36_B n q) m
theorem f_X12_holds_L36_Brun {xs : List Int32} {n d g : Nat} {a1 : Int32} {a2 : Int32} {j3 : Int64} {j5 : Int64} {a7 : Int32} {q36 : Int32 → Int32 → Int64 → Int64 → Int32 → hq_S → Option (Int64 × hq_S)} {s : hq_S} {y : (Int64 × hq_S)} (hd : 1 ≤ d) (e36 : ∀ (a1 : Int32) (a2 : Int32) (j3 : Int64) (j5 : Int64) (a7 : Int32) (s : hq_S), q36 a1 a2 j3 j5 a7 s = some y → hq_R (mm_O xs) d mc_X12_holds 36 [some (.ref 174), some (.int a1), some (.int a2), some (.long j3), none, some (.long j5), none, some (.int a7), none] [] s g (some (.long y.1)) y.2) (h : f_X12_holds_L36_B n q36 a1 a2 j3 j5 a7 s = some y) : hq_R (mm_O xs) d mc_X12_holds 36 [some (.ref 174), some (.int a1), some (.int a2), some (.long j3), none, some (.long j5), none, some (.int a7), none] [] s g (some (.long y.1)) y.2 := by
  unfold f_X12_holds_L36_B at h
  refine hq_p 2 39 [some (.ref 174), some (.int a1), some (.int a2), some (.long j3), none, some (.long j5), none, some (.int a7), none] [.int a1, .int a7] (fun n h => rfl) ?_
  by_cases c6 : a7 < a1
  · rw [if_pos c6] at h
    refine hq_icF rfl (hq_c_ge_F c6) ?_
    refine hq_p 2 44 [some (.ref 174), some (.int a1), some (.int a2), some (.long j3), none, some (.long j5), none, some (.int a7), none] [.ref 174, .long j3] (fun n h => rfl) ?_
    refine hq_gf (x := .ref 176) rfl rfl rfl rfl rfl ?_
    refine hq_p 1 48 [some (.ref 174), some (.int a1), some (.int a2), some (.long j3), none, some (.long j5), none, some (.int a7), none] [.int (4 : Int32), .ref 176, .long j3] (fun n h => rfl) ?_
    obtain ⟨x11, hx11, h⟩ := hq_bind h
    refine hq_iaload rfl rfl rfl hx11 ?_
    refine hq_p 4 54 [some (.ref 174), some (.int a1), some (.int a2), some (.long (j3 * x11.toInt64)), none, some (.long j5), none, some (.int a7), none] [.long j5] (fun n h => rfl) ?_
    refine hq_lc2 (100 : Int64) rfl (by decide) ?_
    refine hq_p 4 36 [some (.ref 174), some (.int a1), some (.int a2), some (.long (j3 * x11.toInt64)), none, some (.long (j5 * (100 : Int64))), none, some (.int (a7 + (1 : Int32))), none] [] (fun n h => rfl) ?_
    exact e36 a1 a2 (j3 * x11.toInt64) (j5 * (100 : Int64)) (a7 + (1 : Int32)) s h
  · rw [if_neg c6] at h
    refine hq_icT rfl (hq_c_ge_T c6) ?_
    refine hq_p 2 69 [some (.ref 174), some (.int a1), some (.int a2), some (.long j3), none, some (.long j5), none, some (.int a7), none] [.long j5, .long j3] (fun n h => rfl) ?_
    obtain ⟨y7, hy7, h⟩ := hq_bind h
    refine hq_ist rfl rfl rfl (Nat.le_trans (by decide) hd) rfl (f_X12_common_run (Nat.le_sub_of_add_le (Nat.le_trans (by decide) hd)) hy7) rfl ?_
    refine hq_p 2 75 [some (.ref 174), some (.int a1), some (.int a2), some (.long j3), none, some (.long j5), none, some (.long y7.1), none] [.int a2] (fun n h => rfl) ?_
    by_cases c8 : a2 = 0
    · rw [if_pos c8] at h
      refine hq_izF rfl (hq_c_ne_F c8) ?_
      refine hq_p 2 81 [some (.ref 174), some (.int a1), some (.int a2), some (.long j3), none, some (.long j5), none, some (.long y7.1), none] [.long y7.1, .long j3] (fun n h => rfl) ?_
      obtain ⟨x10, hx10, h⟩ := hq_bind h
      refine hq_ldiv_ rfl hx10 ?_
      refine hq_p 1 90 [some (.ref 174), some (.int a1), some (.int a2), some (.long j3), none, some (.long j5), none, some (.long y7.1), none] [.long x10] (fun n h => rfl) ?_
      have h := Option.some.inj h
      subst h
      exact ⟨1, rfl⟩
    · rw [if_neg c8] at h
      refine hq_izT rfl (hq_c_ne_T c8) ?_
      refine hq_p 2 89 [some (.ref 174), some (.int a1), some (.int a2), some (.long j3), none, some (.long j5), none, some (.long y7.1), none] [.long y7.1, .long j5] (fun n h => rfl) ?_
      obtain ⟨x9, hx9, h⟩ := hq_bind h
      refine hq_ldiv_ rfl hx9 ?_
      have h := Option.some.inj h
      subst h
      exact ⟨1, rfl⟩
theorem f_X12_holds_L36_run {xs : List Int32} {n m d g : Nat} {a1 : Int32} {a2 : Int32} {j3 : Int64} {j5 : Int64} {a7 : Int32} {s : hq_S} {y : (Int64 × hq_S)} (hd : 1 ≤ d) (h : f_X12_holds_L36 n m a1 a2 j3 j5 a7 s = some y) : hq_R (mm_O xs) d mc_X12_holds 36 [some (.ref 174), some (.int a1), some (.int a2), some (.long j3), none, some (.long j5), none, some (.int a7), none] [] s g (some (.long y.1)) y.2 := by
  induction m generalizing a1 a2 j3 j5 a7 s with
  | zero => cases h
  | succ m ih => exact f_X12_holds_L36_Brun (n := n) hd (fun a1 a2 j3 j5 a7 s h => ih h) h
def f_X12_holds (n : Nat) (a1 : Int32) (a2 : Int32) (s : hq_S) : Option (Int64 × hq_S) := (hq_pi s 174 0 0 (0 : Int32)).bind fun s1 => if a1 < 0 then f_X12_holds_J24 n a1 a2 s1 else if (6 : Int32) < a1 then f_X12_holds_J24 n a1 a2 s1 else if a2 < 0 then f_X12_holds_J24 n a1 a2 s1 else if (1 : Int32) < a2 then f_X12_holds_J24 n a1 a2 s1 else f_X12_holds_L36 n n a1 a2 (1 : Int64) (1 : Int64) (0 : Int32) s1
theorem f_X12_holds_run {xs : List Int32} {n d g : Nat} {a1 : Int32} {a2 : Int32} {s : hq_S} {y : (Int64 × hq_S)} (hd : 1 ≤ d) (h : f_X12_holds n a1 a2 s = some y) : hq_R (mm_O xs) d mc_X12_holds 0 [some (.ref 174), some (.int a1), some (.int a2), none, none, none, none, none, none] [] s g (some (.long y.1)) y.2 := by
  unfold f_X12_holds at h
  refine hq_p 2 2 [some (.ref 174), some (.int a1), some (.int a2), none, none, none, none, none, none] [.int (0 : Int32), .ref 174] (fun n h => rfl) ?_
  obtain ⟨s1, hs1, h⟩ := hq_bind h
  refine hq_pfi rfl rfl rfl rfl rfl hs1 ?_
  refine hq_p 1 6 [some (.ref 174), some (.int a1), some (.int a2), none, none, none, none, none, none] [.int a1] (fun n h => rfl) ?_
  by_cases c2 : a1 < 0
  · rw [if_pos c2] at h
    refine hq_izT rfl (hq_c_lt_T c2) ?_
    exact f_X12_holds_J24_run hd h
  · rw [if_neg c2] at h
    refine hq_izF rfl (hq_c_lt_F c2) ?_
    refine hq_p 2 12 [some (.ref 174), some (.int a1), some (.int a2), none, none, none, none, none, none] [.int (6 : Int32), .int a1] (fun n h => rfl) ?_
    by_cases c3 : (6 : Int32) < a1
    · rw [if_pos c3] at h
      refine hq_icT rfl (hq_c_gt_T c3) ?_
      exact f_X12_holds_J24_run hd h
    · rw [if_neg c3] at h
      refine hq_icF rfl (hq_c_gt_F c3) ?_
      refine hq_p 1 16 [some (.ref 174), some (.int a1), some (.int a2), none, none, none, none, none, none] [.int a2] (fun n h => rfl) ?_
      by_cases c4 : a2 < 0
      · rw [if_pos c4] at h
        refine hq_izT rfl (hq_c_lt_T c4) ?_
        exact f_X12_holds_J24_run hd h
      · rw [if_neg c4] at h
        refine hq_izF rfl (hq_c_lt_F c4) ?_
        refine hq_p 2 21 [some (.ref 174), some (.int a1), some (.int a2), none, none, none, none, none, none] [.int (1 : Int32), .int a2] (fun n h => rfl) ?_
        by_cases c5 : (1 : Int32) < a2
        · rw [if_pos c5] at h
          refine hq_icF rfl (hq_c_le_F c5) ?_
          exact f_X12_holds_J24_run hd h
        · rw [if_neg c5] at h
          refine hq_icT rfl (hq_c_le_T c5) ?_
          refine hq_p 6 36 [some (.ref 174), some (.int a1), some (.int a2), some (.long (1 : Int64)), none, some (.long (1 : Int64)), none, some (.int (0 : Int32)), none] [] (fun n h => rfl) ?_
          exact f_X12_holds_L36_run hd h
def f_X12_see (n : Nat) (a1 : Int32) (a2 : Int32) (a3 : Int32) (a4 : Int32) (s : hq_S) : Option (Int32 × hq_S) := (hq_pi s 174 0 0 (0 : Int32)).bind fun s1 => if a1 < (1 : Int32) then some ((-1 : Int32), s1) else if (60 : Int32) < a1 then some ((-1 : Int32), s1) else (f_X12_isThief n a2 s1).bind fun y4 => if y4.1 = 0 then some ((-1 : Int32), y4.2) else (f_X12_isCorner n a3 y4.2).bind fun y6 => if y6.1 = 0 then some ((-1 : Int32), y6.2) else if (hq_gi y6.2 174 74) = (24 : Int32) then some ((-1 : Int32), y6.2) else (hq_st y6.2 224 24 (hq_gi y6.2 174 74) a1).bind fun s9 => (hq_st s9 225 24 (hq_gi s9 174 74) a2).bind fun s10 => (hq_st s10 226 24 (hq_gi s10 174 74) a3).bind fun s11 => (hq_st s11 227 24 (hq_gi s11 174 74) (hq_nar .boolean a4)).bind fun s12 => (hq_st s12 228 24 (hq_gi s12 174 74) (-1 : Int32)).bind fun s13 => (hq_pi s13 174 74 0 ((hq_gi s13 174 74) + (1 : Int32))).bind fun s14 => some (((hq_gi s14 174 74) - (1 : Int32)), s14)
theorem f_X12_see_run {xs : List Int32} {n d g : Nat} {a1 : Int32} {a2 : Int32} {a3 : Int32} {a4 : Int32} {s : hq_S} {y : (Int32 × hq_S)} (hd : 1 ≤ d) (h : f_X12_see n a1 a2 a3 a4 s = some y) : hq_R (mm_O xs) d mc_X12_see 0 [some (.ref 174), some (.int a1), some (.int a2), some (.int a3), some (.int a4)] [] s g (some (.int y.1)) y.2 := by
  unfold f_X12_see at h
  refine hq_p 2 2 [some (.ref 174), some (.int a1), some (.int a2), some (.int a3), some (.int a4)] [.int (0 : Int32), .ref 174] (fun n h => rfl) ?_
  obtain ⟨s1, hs1, h⟩ := hq_bind h
  refine hq_pfi rfl rfl rfl rfl rfl hs1 ?_
  refine hq_p 2 7 [some (.ref 174), some (.int a1), some (.int a2), some (.int a3), some (.int a4)] [.int (1 : Int32), .int a1] (fun n h => rfl) ?_
  by_cases c2 : a1 < (1 : Int32)
  · rw [if_pos c2] at h
    refine hq_icT rfl (hq_c_lt_T c2) ?_
    refine hq_icn (-1 : Int32) rfl (by decide) ?_
    have h := Option.some.inj h
    subst h
    exact ⟨1, rfl⟩
  · rw [if_neg c2] at h
    refine hq_icF rfl (hq_c_lt_F c2) ?_
    refine hq_p 1 11 [some (.ref 174), some (.int a1), some (.int a2), some (.int a3), some (.int a4)] [.int a1] (fun n h => rfl) ?_
    refine hq_bip (60 : Int32) rfl (by decide) ?_
    by_cases c3 : (60 : Int32) < a1
    · rw [if_pos c3] at h
      refine hq_icT rfl (hq_c_gt_T c3) ?_
      refine hq_icn (-1 : Int32) rfl (by decide) ?_
      have h := Option.some.inj h
      subst h
      exact ⟨1, rfl⟩
    · rw [if_neg c3] at h
      refine hq_icF rfl (hq_c_gt_F c3) ?_
      refine hq_p 2 18 [some (.ref 174), some (.int a1), some (.int a2), some (.int a3), some (.int a4)] [.int a2, .ref 174] (fun n h => rfl) ?_
      obtain ⟨y4, hy4, h⟩ := hq_bind h
      refine hq_inv rfl rfl (Nat.le_trans (by decide) hd) rfl rfl (hq_rcv rfl rfl) (f_X12_isThief_run (Nat.le_sub_of_add_le (Nat.le_trans (by decide) hd)) hy4) rfl ?_
      by_cases c5 : y4.1 = 0
      · rw [if_pos c5] at h
        refine hq_izT rfl (hq_c_eq_T c5) ?_
        refine hq_icn (-1 : Int32) rfl (by decide) ?_
        have h := Option.some.inj h
        subst h
        exact ⟨1, rfl⟩
      · rw [if_neg c5] at h
        refine hq_izF rfl (hq_c_eq_F c5) ?_
        refine hq_p 2 26 [some (.ref 174), some (.int a1), some (.int a2), some (.int a3), some (.int a4)] [.int a3, .ref 174] (fun n h => rfl) ?_
        obtain ⟨y6, hy6, h⟩ := hq_bind h
        refine hq_inv rfl rfl (Nat.le_trans (by decide) hd) rfl rfl (hq_rcv rfl rfl) (f_X12_isCorner_run (Nat.le_sub_of_add_le (Nat.le_trans (by decide) hd)) hy6) rfl ?_
        by_cases c7 : y6.1 = 0
        · rw [if_pos c7] at h
          refine hq_izT rfl (hq_c_eq_T c7) ?_
          refine hq_icn (-1 : Int32) rfl (by decide) ?_
          have h := Option.some.inj h
          subst h
          exact ⟨1, rfl⟩
        · rw [if_neg c7] at h
          refine hq_izF rfl (hq_c_eq_F c7) ?_
          refine hq_p 1 33 [some (.ref 174), some (.int a1), some (.int a2), some (.int a3), some (.int a4)] [.ref 174] (fun n h => rfl) ?_
          refine hq_gf (x := .int (hq_gi y6.2 174 74)) rfl rfl rfl rfl rfl ?_
          refine hq_bip (24 : Int32) rfl (by decide) ?_
          by_cases c8 : (hq_gi y6.2 174 74) = (24 : Int32)
          · rw [if_pos c8] at h
            refine hq_icF rfl (hq_c_ne_F c8) ?_
            refine hq_icn (-1 : Int32) rfl (by decide) ?_
            have h := Option.some.inj h
            subst h
            exact ⟨1, rfl⟩
          · rw [if_neg c8] at h
            refine hq_icT rfl (hq_c_ne_T c8) ?_
            refine hq_p 1 44 [some (.ref 174), some (.int a1), some (.int a2), some (.int a3), some (.int a4)] [.ref 174] (fun n h => rfl) ?_
            refine hq_gf (x := .ref 224) rfl rfl rfl rfl rfl ?_
            refine hq_p 1 48 [some (.ref 174), some (.int a1), some (.int a2), some (.int a3), some (.int a4)] [.ref 174, .ref 224] (fun n h => rfl) ?_
            refine hq_gf (x := .int (hq_gi y6.2 174 74)) rfl rfl rfl rfl rfl ?_
            refine hq_p 1 52 [some (.ref 174), some (.int a1), some (.int a2), some (.int a3), some (.int a4)] [.int a1, .int (hq_gi y6.2 174 74), .ref 224] (fun n h => rfl) ?_
            obtain ⟨s9, hs9, h⟩ := hq_bind h
            refine hq_iastore rfl rfl List.length_replicate hs9 ?_
            refine hq_p 1 54 [some (.ref 174), some (.int a1), some (.int a2), some (.int a3), some (.int a4)] [.ref 174] (fun n h => rfl) ?_
            refine hq_gf (x := .ref 225) rfl rfl rfl rfl rfl ?_
            refine hq_p 1 58 [some (.ref 174), some (.int a1), some (.int a2), some (.int a3), some (.int a4)] [.ref 174, .ref 225] (fun n h => rfl) ?_
            refine hq_gf (x := .int (hq_gi s9 174 74)) rfl rfl rfl rfl rfl ?_
            refine hq_p 1 62 [some (.ref 174), some (.int a1), some (.int a2), some (.int a3), some (.int a4)] [.int a2, .int (hq_gi s9 174 74), .ref 225] (fun n h => rfl) ?_
            obtain ⟨s10, hs10, h⟩ := hq_bind h
            refine hq_iastore rfl rfl List.length_replicate hs10 ?_
            refine hq_p 1 64 [some (.ref 174), some (.int a1), some (.int a2), some (.int a3), some (.int a4)] [.ref 174] (fun n h => rfl) ?_
            refine hq_gf (x := .ref 226) rfl rfl rfl rfl rfl ?_
            refine hq_p 1 68 [some (.ref 174), some (.int a1), some (.int a2), some (.int a3), some (.int a4)] [.ref 174, .ref 226] (fun n h => rfl) ?_
            refine hq_gf (x := .int (hq_gi s10 174 74)) rfl rfl rfl rfl rfl ?_
            refine hq_p 1 72 [some (.ref 174), some (.int a1), some (.int a2), some (.int a3), some (.int a4)] [.int a3, .int (hq_gi s10 174 74), .ref 226] (fun n h => rfl) ?_
            obtain ⟨s11, hs11, h⟩ := hq_bind h
            refine hq_iastore rfl rfl List.length_replicate hs11 ?_
            refine hq_p 1 74 [some (.ref 174), some (.int a1), some (.int a2), some (.int a3), some (.int a4)] [.ref 174] (fun n h => rfl) ?_
            refine hq_gf (x := .ref 227) rfl rfl rfl rfl rfl ?_
            refine hq_p 1 78 [some (.ref 174), some (.int a1), some (.int a2), some (.int a3), some (.int a4)] [.ref 174, .ref 227] (fun n h => rfl) ?_
            refine hq_gf (x := .int (hq_gi s11 174 74)) rfl rfl rfl rfl rfl ?_
            refine hq_p 1 83 [some (.ref 174), some (.int a1), some (.int a2), some (.int a3), some (.int a4)] [.int a4, .int (hq_gi s11 174 74), .ref 227] (fun n h => rfl) ?_
            obtain ⟨s12, hs12, h⟩ := hq_bind h
            refine hq_bastore rfl rfl (by decide) List.length_replicate hs12 ?_
            refine hq_p 1 85 [some (.ref 174), some (.int a1), some (.int a2), some (.int a3), some (.int a4)] [.ref 174] (fun n h => rfl) ?_
            refine hq_gf (x := .ref 228) rfl rfl rfl rfl rfl ?_
            refine hq_p 1 89 [some (.ref 174), some (.int a1), some (.int a2), some (.int a3), some (.int a4)] [.ref 174, .ref 228] (fun n h => rfl) ?_
            refine hq_gf (x := .int (hq_gi s12 174 74)) rfl rfl rfl rfl rfl ?_
            refine hq_icn (-1 : Int32) rfl (by decide) ?_
            obtain ⟨s13, hs13, h⟩ := hq_bind h
            refine hq_iastore rfl rfl List.length_replicate hs13 ?_
            refine hq_p 2 96 [some (.ref 174), some (.int a1), some (.int a2), some (.int a3), some (.int a4)] [.ref 174, .ref 174] (fun n h => rfl) ?_
            refine hq_gf (x := .int (hq_gi s13 174 74)) rfl rfl rfl rfl rfl ?_
            refine hq_p 2 101 [some (.ref 174), some (.int a1), some (.int a2), some (.int a3), some (.int a4)] [.int ((hq_gi s13 174 74) + (1 : Int32)), .ref 174] (fun n h => rfl) ?_
            obtain ⟨s14, hs14, h⟩ := hq_bind h
            refine hq_pfi rfl rfl rfl rfl rfl hs14 ?_
            refine hq_p 1 105 [some (.ref 174), some (.int a1), some (.int a2), some (.int a3), some (.int a4)] [.ref 174] (fun n h => rfl) ?_
            refine hq_gf (x := .int (hq_gi s14 174 74)) rfl rfl rfl rfl rfl ?_
            refine hq_p 2 110 [some (.ref 174), some (.int a1), some (.int a2), some (.int a3), some (.int a4)] [.int ((hq_gi s14 174 74) - (1 : Int32))] (fun n h => rfl) ?_
            have h := Option.some.inj h
            subst h
            exact ⟨1, rfl⟩
def f_X12_strike (n : Nat) (a1 : Int32) (s : hq_S) : Option (Int32 × hq_S) := (hq_pi s 174 0 0 (0 : Int32)).bind fun s1 => if a1 < 0 then some ((-1 : Int32), s1) else if a1 < (hq_gi s1 174 74) then if (hq_gi s1 174 74) = (24 : Int32) then some ((-1 : Int32), s1) else (hq_st s1 228 24 (hq_gi s1 174 74) a1).bind fun s5 => (hq_pi s5 174 74 0 ((hq_gi s5 174 74) + (1 : Int32))).bind fun s6 => some (((hq_gi s6 174 74) - (1 : Int32)), s6) else some ((-1 : Int32), s1)
theorem f_X12_strike_run {xs : List Int32} {n d g : Nat} {a1 : Int32} {s : hq_S} {y : (Int32 × hq_S)} (hd : 0 ≤ d) (h : f_X12_strike n a1 s = some y) : hq_R (mm_O xs) d mc_X12_strike 0 [some (.ref 174), some (.int a1)] [] s g (some (.int y.1)) y.2 := by
  unfold f_X12_strike at h
  refine hq_p 2 2 [some (.ref 174), some (.int a1)] [.int (0 : Int32), .ref 174] (fun n h => rfl) ?_
  obtain ⟨s1, hs1, h⟩ := hq_bind h
  refine hq_pfi rfl rfl rfl rfl rfl hs1 ?_
  refine hq_p 1 6 [some (.ref 174), some (.int a1)] [.int a1] (fun n h => rfl) ?_
  by_cases c2 : a1 < 0
  · rw [if_pos c2] at h
    refine hq_izT rfl (hq_c_lt_T c2) ?_
    refine hq_icn (-1 : Int32) rfl (by decide) ?_
    have h := Option.some.inj h
    subst h
    exact ⟨1, rfl⟩
  · rw [if_neg c2] at h
    refine hq_izF rfl (hq_c_lt_F c2) ?_
    refine hq_p 2 11 [some (.ref 174), some (.int a1)] [.ref 174, .int a1] (fun n h => rfl) ?_
    refine hq_gf (x := .int (hq_gi s1 174 74)) rfl rfl rfl rfl rfl ?_
    by_cases c3 : a1 < (hq_gi s1 174 74)
    · rw [if_pos c3] at h
      refine hq_icF rfl (hq_c_ge_F c3) ?_
      refine hq_p 1 18 [some (.ref 174), some (.int a1)] [.ref 174] (fun n h => rfl) ?_
      refine hq_gf (x := .int (hq_gi s1 174 74)) rfl rfl rfl rfl rfl ?_
      refine hq_bip (24 : Int32) rfl (by decide) ?_
      by_cases c4 : (hq_gi s1 174 74) = (24 : Int32)
      · rw [if_pos c4] at h
        refine hq_icF rfl (hq_c_ne_F c4) ?_
        refine hq_icn (-1 : Int32) rfl (by decide) ?_
        have h := Option.some.inj h
        subst h
        exact ⟨1, rfl⟩
      · rw [if_neg c4] at h
        refine hq_icT rfl (hq_c_ne_T c4) ?_
        refine hq_p 1 29 [some (.ref 174), some (.int a1)] [.ref 174] (fun n h => rfl) ?_
        refine hq_gf (x := .ref 228) rfl rfl rfl rfl rfl ?_
        refine hq_p 1 33 [some (.ref 174), some (.int a1)] [.ref 174, .ref 228] (fun n h => rfl) ?_
        refine hq_gf (x := .int (hq_gi s1 174 74)) rfl rfl rfl rfl rfl ?_
        refine hq_p 1 37 [some (.ref 174), some (.int a1)] [.int a1, .int (hq_gi s1 174 74), .ref 228] (fun n h => rfl) ?_
        obtain ⟨s5, hs5, h⟩ := hq_bind h
        refine hq_iastore rfl rfl List.length_replicate hs5 ?_
        refine hq_p 2 40 [some (.ref 174), some (.int a1)] [.ref 174, .ref 174] (fun n h => rfl) ?_
        refine hq_gf (x := .int (hq_gi s5 174 74)) rfl rfl rfl rfl rfl ?_
        refine hq_p 2 45 [some (.ref 174), some (.int a1)] [.int ((hq_gi s5 174 74) + (1 : Int32)), .ref 174] (fun n h => rfl) ?_
        obtain ⟨s6, hs6, h⟩ := hq_bind h
        refine hq_pfi rfl rfl rfl rfl rfl hs6 ?_
        refine hq_p 1 49 [some (.ref 174), some (.int a1)] [.ref 174] (fun n h => rfl) ?_
        refine hq_gf (x := .int (hq_gi s6 174 74)) rfl rfl rfl rfl rfl ?_
        refine hq_p 2 54 [some (.ref 174), some (.int a1)] [.int ((hq_gi s6 174 74) - (1 : Int32))] (fun n h => rfl) ?_
        have h := Option.some.inj h
        subst h
        exact ⟨1, rfl⟩
    · rw [if_neg c3] at h
      refine hq_icT rfl (hq_c_ge_T c3) ?_
      refine hq_icn (-1 : Int32) rfl (by decide) ?_
      have h := Option.some.inj h
      subst h
      exact ⟨1, rfl⟩
def f_X12_known (n : Nat) (a1 : Int32) (s : hq_S) : Option (Int32 × hq_S) := (hq_pi s 174 0 0 (0 : Int32)).bind fun s1 => if a1 < (-1 : Int32) then some ((0 : Int32), s1) else if (hq_gi s1 174 74) < a1 then some ((0 : Int32), s1) else (hq_pi s1 174 75 0 a1).bind fun s4 => some ((1 : Int32), s4)
theorem f_X12_known_run {xs : List Int32} {n d g : Nat} {a1 : Int32} {s : hq_S} {y : (Int32 × hq_S)} (hd : 0 ≤ d) (h : f_X12_known n a1 s = some y) : hq_R (mm_O xs) d mc_X12_known 0 [some (.ref 174), some (.int a1)] [] s g (some (.int y.1)) y.2 := by
  unfold f_X12_known at h
  refine hq_p 2 2 [some (.ref 174), some (.int a1)] [.int (0 : Int32), .ref 174] (fun n h => rfl) ?_
  obtain ⟨s1, hs1, h⟩ := hq_bind h
  refine hq_pfi rfl rfl rfl rfl rfl hs1 ?_
  refine hq_p 1 6 [some (.ref 174), some (.int a1)] [.int a1] (fun n h => rfl) ?_
  refine hq_icn (-1 : Int32) rfl (by decide) ?_
  by_cases c2 : a1 < (-1 : Int32)
  · rw [if_pos c2] at h
    refine hq_icT rfl (hq_c_lt_T c2) ?_
    refine hq_p 1 19 [some (.ref 174), some (.int a1)] [.int (0 : Int32)] (fun n h => rfl) ?_
    have h := Option.some.inj h
    subst h
    exact ⟨1, rfl⟩
  · rw [if_neg c2] at h
    refine hq_icF rfl (hq_c_lt_F c2) ?_
    refine hq_p 2 12 [some (.ref 174), some (.int a1)] [.ref 174, .int a1] (fun n h => rfl) ?_
    refine hq_gf (x := .int (hq_gi s1 174 74)) rfl rfl rfl rfl rfl ?_
    by_cases c3 : (hq_gi s1 174 74) < a1
    · rw [if_pos c3] at h
      refine hq_icF rfl (hq_c_le_F c3) ?_
      refine hq_p 1 19 [some (.ref 174), some (.int a1)] [.int (0 : Int32)] (fun n h => rfl) ?_
      have h := Option.some.inj h
      subst h
      exact ⟨1, rfl⟩
    · rw [if_neg c3] at h
      refine hq_icT rfl (hq_c_le_T c3) ?_
      refine hq_p 2 22 [some (.ref 174), some (.int a1)] [.int a1, .ref 174] (fun n h => rfl) ?_
      obtain ⟨s4, hs4, h⟩ := hq_bind h
      refine hq_pfi rfl rfl rfl rfl rfl hs4 ?_
      refine hq_p 1 26 [some (.ref 174), some (.int a1)] [.int (1 : Int32)] (fun n h => rfl) ?_
      have h := Option.some.inj h
      subst h
      exact ⟨1, rfl⟩
def f_X12_knownMany (n : Nat) (s : hq_S) : Option (Int32 × hq_S) := if (hq_gi s 174 75) = (-1 : Int32) then some ((hq_gi s 174 74), s) else some ((hq_gi s 174 75), s)
theorem f_X12_knownMany_run {xs : List Int32} {n d g : Nat} {s : hq_S} {y : (Int32 × hq_S)} (hd : 0 ≤ d) (h : f_X12_knownMany n s = some y) : hq_R (mm_O xs) d mc_X12_knownMany 0 [some (.ref 174)] [] s g (some (.int y.1)) y.2 := by
  unfold f_X12_knownMany at h
  refine hq_p 1 1 [some (.ref 174)] [.ref 174] (fun n h => rfl) ?_
  refine hq_gf (x := .int (hq_gi s 174 75)) rfl rfl rfl rfl rfl ?_
  refine hq_icn (-1 : Int32) rfl (by decide) ?_
  by_cases c1 : (hq_gi s 174 75) = (-1 : Int32)
  · rw [if_pos c1] at h
    refine hq_icF rfl (hq_c_ne_F c1) ?_
    refine hq_p 1 9 [some (.ref 174)] [.ref 174] (fun n h => rfl) ?_
    refine hq_gf (x := .int (hq_gi s 174 74)) rfl rfl rfl rfl rfl ?_
    refine hq_p 1 19 [some (.ref 174)] [.int (hq_gi s 174 74)] (fun n h => rfl) ?_
    have h := Option.some.inj h
    subst h
    exact ⟨1, rfl⟩
  · rw [if_neg c1] at h
    refine hq_icT rfl (hq_c_ne_T c1) ?_
    refine hq_p 1 16 [some (.ref 174)] [.ref 174] (fun n h => rfl) ?_
    refine hq_gf (x := .int (hq_gi s 174 75)) rfl rfl rfl rfl rfl ?_
    have h := Option.some.inj h
    subst h
    exact ⟨1, rfl⟩
def f_X12_isSo_J80 (n : Nat) (q2 : Int32 → Int32 → hq_S → Option (Int32 × hq_S)) (a1 : Int32) (a2 : Int32) (s : hq_S) : Option (Int32 × hq_S) := q2 a1 (a2 + (1 : Int32)) s
theorem f_X12_isSo_J80_run {xs : List Int32} {n d g : Nat} {a1 : Int32} {a2 : Int32} {q2 : Int32 → Int32 → hq_S → Option (Int32 × hq_S)} {s : hq_S} {y : (Int32 × hq_S)} (hd : 1 ≤ d) (e2 : ∀ (a1 : Int32) (a2 : Int32) (s : hq_S), q2 a1 a2 s = some y → hq_R (mm_O xs) d mc_X12_isSo 2 [some (.ref 174), some (.int a1), some (.int a2)] [] s g (some (.int y.1)) y.2) (h : f_X12_isSo_J80 n q2 a1 a2 s = some y) : hq_R (mm_O xs) d mc_X12_isSo 80 [some (.ref 174), some (.int a1), some (.int a2)] [] s g (some (.int y.1)) y.2 := by
  unfold f_X12_isSo_J80 at h
  refine hq_p 2 2 [some (.ref 174), some (.int a1), some (.int (a2 + (1 : Int32)))] [] (fun n h => rfl) ?_
  exact e2 a1 (a2 + (1 : Int32)) s h
def f_X12_isSo_L2_B (n : Nat) (q2 : Int32 → Int32 → hq_S → Option (Int32 × hq_S)) (a1 : Int32) (a2 : Int32) (s : hq_S) : Option (Int32 × hq_S) := (f_X12_knownMany n s).bind fun y1 => if a2 < y1.1 then (hq_ld y1.2 229 24 a2).bind fun x3 => if x3 = 0 then (hq_ld y1.2 228 24 a2).bind fun x5 => if x5 = (-1 : Int32) then (hq_ld y1.2 224 24 a2).bind fun x7 => if x7 = a1 then (hq_ld y1.2 225 24 a2).bind fun x9 => (hq_ld y1.2 203 92 ((4 : Int32) + x9)).bind fun x10 => (hq_ld y1.2 226 24 a2).bind fun x11 => (if x10 = x11 then some (1 : Int32) else some (0 : Int32)).bind fun z12 => (hq_ld y1.2 227 24 a2).bind fun x14 => if z12 = x14 then f_X12_isSo_J80 n q2 a1 a2 y1.2 else some ((0 : Int32), y1.2) else f_X12_isSo_J80 n q2 a1 a2 y1.2 else f_X12_isSo_J80 n q2 a1 a2 y1.2 else f_X12_isSo_J80 n q2 a1 a2 y1.2 else some ((1 : Int32), y1.2)
def f_X12_isSo_L2 (n : Nat) (m : Nat) : Int32 → Int32 → hq_S → Option (Int32 × hq_S) := Nat.rec (fun _ _ _ => none) (fun _ q => f_X12_isSo_L2_B n q) m
theorem f_X12_isSo_L2_Brun {xs : List Int32} {n d g : Nat} {a1 : Int32} {a2 : Int32} {q2 : Int32 → Int32 → hq_S → Option (Int32 × hq_S)} {s : hq_S} {y : (Int32 × hq_S)} (hd : 1 ≤ d) (e2 : ∀ (a1 : Int32) (a2 : Int32) (s : hq_S), q2 a1 a2 s = some y → hq_R (mm_O xs) d mc_X12_isSo 2 [some (.ref 174), some (.int a1), some (.int a2)] [] s g (some (.int y.1)) y.2) (h : f_X12_isSo_L2_B n q2 a1 a2 s = some y) : hq_R (mm_O xs) d mc_X12_isSo 2 [some (.ref 174), some (.int a1), some (.int a2)] [] s g (some (.int y.1)) y.2 := by
  unfold f_X12_isSo_L2_B at h
  refine hq_p 2 4 [some (.ref 174), some (.int a1), some (.int a2)] [.ref 174, .int a2] (fun n h => rfl) ?_
  obtain ⟨y1, hy1, h⟩ := hq_bind h
  refine hq_inv rfl rfl (Nat.le_trans (by decide) hd) rfl rfl (hq_rcv rfl rfl) (f_X12_knownMany_run (Nat.le_sub_of_add_le (Nat.le_trans (by decide) hd)) hy1) rfl ?_
  by_cases c2 : a2 < y1.1
  · rw [if_pos c2] at h
    refine hq_icF rfl (hq_c_ge_F c2) ?_
    refine hq_p 1 11 [some (.ref 174), some (.int a1), some (.int a2)] [.ref 174] (fun n h => rfl) ?_
    refine hq_gf (x := .ref 229) rfl rfl rfl rfl rfl ?_
    refine hq_p 1 15 [some (.ref 174), some (.int a1), some (.int a2)] [.int a2, .ref 229] (fun n h => rfl) ?_
    obtain ⟨x3, hx3, h⟩ := hq_bind h
    refine hq_baload rfl rfl (by decide) List.length_replicate hx3 ?_
    by_cases c4 : x3 = 0
    · rw [if_pos c4] at h
      refine hq_izF rfl (hq_c_ne_F c4) ?_
      refine hq_p 1 20 [some (.ref 174), some (.int a1), some (.int a2)] [.ref 174] (fun n h => rfl) ?_
      refine hq_gf (x := .ref 228) rfl rfl rfl rfl rfl ?_
      refine hq_p 1 24 [some (.ref 174), some (.int a1), some (.int a2)] [.int a2, .ref 228] (fun n h => rfl) ?_
      obtain ⟨x5, hx5, h⟩ := hq_bind h
      refine hq_iaload rfl rfl List.length_replicate hx5 ?_
      refine hq_icn (-1 : Int32) rfl (by decide) ?_
      by_cases c6 : x5 = (-1 : Int32)
      · rw [if_pos c6] at h
        refine hq_icF rfl (hq_c_ne_F c6) ?_
        refine hq_p 1 30 [some (.ref 174), some (.int a1), some (.int a2)] [.ref 174] (fun n h => rfl) ?_
        refine hq_gf (x := .ref 224) rfl rfl rfl rfl rfl ?_
        refine hq_p 1 34 [some (.ref 174), some (.int a1), some (.int a2)] [.int a2, .ref 224] (fun n h => rfl) ?_
        obtain ⟨x7, hx7, h⟩ := hq_bind h
        refine hq_iaload rfl rfl List.length_replicate hx7 ?_
        refine hq_p 1 36 [some (.ref 174), some (.int a1), some (.int a2)] [.int a1, .int x7] (fun n h => rfl) ?_
        by_cases c8 : x7 = a1
        · rw [if_pos c8] at h
          refine hq_icT rfl (hq_c_eq_T c8) ?_
          refine hq_p 1 43 [some (.ref 174), some (.int a1), some (.int a2)] [.ref 174] (fun n h => rfl) ?_
          refine hq_gf (x := .ref 203) rfl rfl rfl rfl rfl ?_
          refine hq_p 2 48 [some (.ref 174), some (.int a1), some (.int a2)] [.ref 174, .int (4 : Int32), .ref 203] (fun n h => rfl) ?_
          refine hq_gf (x := .ref 225) rfl rfl rfl rfl rfl ?_
          refine hq_p 1 52 [some (.ref 174), some (.int a1), some (.int a2)] [.int a2, .ref 225, .int (4 : Int32), .ref 203] (fun n h => rfl) ?_
          obtain ⟨x9, hx9, h⟩ := hq_bind h
          refine hq_iaload rfl rfl List.length_replicate hx9 ?_
          refine hq_p 1 54 [some (.ref 174), some (.int a1), some (.int a2)] [.int ((4 : Int32) + x9), .ref 203] (fun n h => rfl) ?_
          obtain ⟨x10, hx10, h⟩ := hq_bind h
          refine hq_iaload rfl rfl List.length_replicate hx10 ?_
          refine hq_p 1 56 [some (.ref 174), some (.int a1), some (.int a2)] [.ref 174, .int x10] (fun n h => rfl) ?_
          refine hq_gf (x := .ref 226) rfl rfl rfl rfl rfl ?_
          refine hq_p 1 60 [some (.ref 174), some (.int a1), some (.int a2)] [.int a2, .ref 226, .int x10] (fun n h => rfl) ?_
          obtain ⟨x11, hx11, h⟩ := hq_bind h
          refine hq_iaload rfl rfl List.length_replicate hx11 ?_
          obtain ⟨z12, hz12, h⟩ := hq_bind h
          suffices hT : hq_R (mm_O xs) d mc_X12_isSo 69 [some (.ref 174), some (.int a1), some (.int a2)] [.int z12] y1.2 g (some (.int y.1)) y.2 from by
            clear h
            have h := hz12
            by_cases c13 : x10 = x11
            · rw [if_pos c13] at h
              refine hq_icF rfl (hq_c_ne_F c13) ?_
              refine hq_p 2 69 [some (.ref 174), some (.int a1), some (.int a2)] [.int (1 : Int32)] (fun n h => rfl) ?_
              cases h
              exact hT
            · rw [if_neg c13] at h
              refine hq_icT rfl (hq_c_ne_T c13) ?_
              refine hq_p 1 69 [some (.ref 174), some (.int a1), some (.int a2)] [.int (0 : Int32)] (fun n h => rfl) ?_
              cases h
              exact hT
          refine hq_p 1 70 [some (.ref 174), some (.int a1), some (.int a2)] [.ref 174, .int z12] (fun n h => rfl) ?_
          refine hq_gf (x := .ref 227) rfl rfl rfl rfl rfl ?_
          refine hq_p 1 74 [some (.ref 174), some (.int a1), some (.int a2)] [.int a2, .ref 227, .int z12] (fun n h => rfl) ?_
          obtain ⟨x14, hx14, h⟩ := hq_bind h
          refine hq_baload rfl rfl (by decide) List.length_replicate hx14 ?_
          by_cases c15 : z12 = x14
          · rw [if_pos c15] at h
            refine hq_icT rfl (hq_c_eq_T c15) ?_
            exact f_X12_isSo_J80_run hd e2 h
          · rw [if_neg c15] at h
            refine hq_icF rfl (hq_c_eq_F c15) ?_
            refine hq_p 1 79 [some (.ref 174), some (.int a1), some (.int a2)] [.int (0 : Int32)] (fun n h => rfl) ?_
            have h := Option.some.inj h
            subst h
            exact ⟨1, rfl⟩
        · rw [if_neg c8] at h
          refine hq_icF rfl (hq_c_eq_F c8) ?_
          refine hq_p 1 80 [some (.ref 174), some (.int a1), some (.int a2)] [] (fun n h => rfl) ?_
          exact f_X12_isSo_J80_run hd e2 h
      · rw [if_neg c6] at h
        refine hq_icT rfl (hq_c_ne_T c6) ?_
        exact f_X12_isSo_J80_run hd e2 h
    · rw [if_neg c4] at h
      refine hq_izT rfl (hq_c_ne_T c4) ?_
      exact f_X12_isSo_J80_run hd e2 h
  · rw [if_neg c2] at h
    refine hq_icT rfl (hq_c_ge_T c2) ?_
    refine hq_p 1 87 [some (.ref 174), some (.int a1), some (.int a2)] [.int (1 : Int32)] (fun n h => rfl) ?_
    have h := Option.some.inj h
    subst h
    exact ⟨1, rfl⟩
theorem f_X12_isSo_L2_run {xs : List Int32} {n m d g : Nat} {a1 : Int32} {a2 : Int32} {s : hq_S} {y : (Int32 × hq_S)} (hd : 1 ≤ d) (h : f_X12_isSo_L2 n m a1 a2 s = some y) : hq_R (mm_O xs) d mc_X12_isSo 2 [some (.ref 174), some (.int a1), some (.int a2)] [] s g (some (.int y.1)) y.2 := by
  induction m generalizing a1 a2 s with
  | zero => cases h
  | succ m ih => exact f_X12_isSo_L2_Brun (n := n) hd (fun a1 a2 s h => ih h) h
def f_X12_isSo (n : Nat) (a1 : Int32) (s : hq_S) : Option (Int32 × hq_S) := f_X12_isSo_L2 n n a1 (0 : Int32) s
theorem f_X12_isSo_run {xs : List Int32} {n d g : Nat} {a1 : Int32} {s : hq_S} {y : (Int32 × hq_S)} (hd : 1 ≤ d) (h : f_X12_isSo n a1 s = some y) : hq_R (mm_O xs) d mc_X12_isSo 0 [some (.ref 174), some (.int a1), none] [] s g (some (.int y.1)) y.2 := by
  unfold f_X12_isSo at h
  refine hq_p 2 2 [some (.ref 174), some (.int a1), some (.int (0 : Int32))] [] (fun n h => rfl) ?_
  exact f_X12_isSo_L2_run hd h
def f_X12_fitsBold_L7_B (n : Nat) (q7 : Int32 → Int32 → hq_S → Option (Int32 × hq_S)) (a1 : Int32) (a2 : Int32) (s : hq_S) : Option (Int32 × hq_S) := if a1 < a2 then some ((1 : Int32), s) else (f_X12_passes n (1 : Int32) (0 : Int32) s).bind fun s3 => (f_X12_isSo n a2 s3).bind fun y4 => if y4.1 = 0 then some ((0 : Int32), y4.2) else q7 a1 (a2 + (1 : Int32)) y4.2
def f_X12_fitsBold_L7 (n : Nat) (m : Nat) : Int32 → Int32 → hq_S → Option (Int32 × hq_S) := Nat.rec (fun _ _ _ => none) (fun _ q => f_X12_fitsBold_L7_B n q) m
theorem f_X12_fitsBold_L7_Brun {xs : List Int32} {n d g : Nat} {a1 : Int32} {a2 : Int32} {q7 : Int32 → Int32 → hq_S → Option (Int32 × hq_S)} {s : hq_S} {y : (Int32 × hq_S)} (hd : 6 ≤ d) (e7 : ∀ (a1 : Int32) (a2 : Int32) (s : hq_S), q7 a1 a2 s = some y → hq_R (mm_O xs) d mc_X12_fitsBold 7 [some (.ref 174), some (.int a1), some (.int a2)] [] s g (some (.int y.1)) y.2) (h : f_X12_fitsBold_L7_B n q7 a1 a2 s = some y) : hq_R (mm_O xs) d mc_X12_fitsBold 7 [some (.ref 174), some (.int a1), some (.int a2)] [] s g (some (.int y.1)) y.2 := by
  unfold f_X12_fitsBold_L7_B at h
  refine hq_p 2 9 [some (.ref 174), some (.int a1), some (.int a2)] [.int a1, .int a2] (fun n h => rfl) ?_
  by_cases c2 : a1 < a2
  · rw [if_pos c2] at h
    refine hq_icT rfl (hq_c_gt_T c2) ?_
    refine hq_p 1 35 [some (.ref 174), some (.int a1), some (.int a2)] [.int (1 : Int32)] (fun n h => rfl) ?_
    have h := Option.some.inj h
    subst h
    exact ⟨1, rfl⟩
  · rw [if_neg c2] at h
    refine hq_icF rfl (hq_c_gt_F c2) ?_
    refine hq_p 3 15 [some (.ref 174), some (.int a1), some (.int a2)] [.int (0 : Int32), .int (1 : Int32), .ref 174] (fun n h => rfl) ?_
    obtain ⟨s3, hs3, h⟩ := hq_bind h
    refine hq_inv rfl rfl (Nat.le_trans (by decide) hd) rfl rfl (hq_rcv rfl rfl) (f_X12_passes_run (Nat.le_sub_of_add_le (Nat.le_trans (by decide) hd)) hs3) rfl ?_
    refine hq_p 2 20 [some (.ref 174), some (.int a1), some (.int a2)] [.int a2, .ref 174] (fun n h => rfl) ?_
    obtain ⟨y4, hy4, h⟩ := hq_bind h
    refine hq_inv rfl rfl (Nat.le_trans (by decide) hd) rfl rfl (hq_rcv rfl rfl) (f_X12_isSo_run (Nat.le_sub_of_add_le (Nat.le_trans (by decide) hd)) hy4) rfl ?_
    by_cases c5 : y4.1 = 0
    · rw [if_pos c5] at h
      refine hq_izF rfl (hq_c_ne_F c5) ?_
      refine hq_p 1 27 [some (.ref 174), some (.int a1), some (.int a2)] [.int (0 : Int32)] (fun n h => rfl) ?_
      have h := Option.some.inj h
      subst h
      exact ⟨1, rfl⟩
    · rw [if_neg c5] at h
      refine hq_izT rfl (hq_c_ne_T c5) ?_
      refine hq_p 2 7 [some (.ref 174), some (.int a1), some (.int (a2 + (1 : Int32)))] [] (fun n h => rfl) ?_
      exact e7 a1 (a2 + (1 : Int32)) y4.2 h
theorem f_X12_fitsBold_L7_run {xs : List Int32} {n m d g : Nat} {a1 : Int32} {a2 : Int32} {s : hq_S} {y : (Int32 × hq_S)} (hd : 6 ≤ d) (h : f_X12_fitsBold_L7 n m a1 a2 s = some y) : hq_R (mm_O xs) d mc_X12_fitsBold 7 [some (.ref 174), some (.int a1), some (.int a2)] [] s g (some (.int y.1)) y.2 := by
  induction m generalizing a1 a2 s with
  | zero => cases h
  | succ m ih => exact f_X12_fitsBold_L7_Brun (n := n) hd (fun a1 a2 s h => ih h) h
def f_X12_fitsBold (n : Nat) (a1 : Int32) (s : hq_S) : Option (Int32 × hq_S) := (f_X12_starts n (1 : Int32) s).bind fun s1 => f_X12_fitsBold_L7 n n a1 (1 : Int32) s1
theorem f_X12_fitsBold_run {xs : List Int32} {n d g : Nat} {a1 : Int32} {s : hq_S} {y : (Int32 × hq_S)} (hd : 6 ≤ d) (h : f_X12_fitsBold n a1 s = some y) : hq_R (mm_O xs) d mc_X12_fitsBold 0 [some (.ref 174), some (.int a1), none] [] s g (some (.int y.1)) y.2 := by
  unfold f_X12_fitsBold at h
  refine hq_p 2 2 [some (.ref 174), some (.int a1), none] [.int (1 : Int32), .ref 174] (fun n h => rfl) ?_
  obtain ⟨s1, hs1, h⟩ := hq_bind h
  refine hq_inv rfl rfl (Nat.le_trans (by decide) hd) rfl rfl (hq_rcv rfl rfl) (f_X12_starts_run (Nat.le_sub_of_add_le (Nat.le_trans (by decide) hd)) hs1) rfl ?_
  refine hq_p 2 7 [some (.ref 174), some (.int a1), some (.int (1 : Int32))] [] (fun n h => rfl) ?_
  exact f_X12_fitsBold_L7_run hd h
def f_X12_boldsOf_L129_B (n : Nat) (q129 : Int32 → Int32 → Int32 → Int32 → hq_S → Option (Int32 × hq_S)) (a1 : Int32) (a2 : Int32) (a3 : Int32) (a4 : Int32) (s : hq_S) : Option (Int32 × hq_S) := if a4 < (10 : Int32) then (hq_pi s 174 54 0 a4).bind fun s10 => (f_X12_fitsBold n a2 s10).bind fun y11 => (if y11.1 = 0 then some (0 : Int32) else some ((1 : Int32) <<< (a4 &&& 31))).bind fun z12 => q129 a1 a2 (a3 ||| z12) (a4 + (1 : Int32)) y11.2 else (hq_pi s 174 53 0 (-1 : Int32)).bind fun s9 => some (a3, s9)
def f_X12_boldsOf_L129 (n : Nat) (m : Nat) : Int32 → Int32 → Int32 → Int32 → hq_S → Option (Int32 × hq_S) := Nat.rec (fun _ _ _ _ _ => none) (fun _ q => f_X12_boldsOf_L129_B n q) m
theorem f_X12_boldsOf_L129_Brun {xs : List Int32} {n d g : Nat} {a1 : Int32} {a2 : Int32} {a3 : Int32} {a4 : Int32} {q129 : Int32 → Int32 → Int32 → Int32 → hq_S → Option (Int32 × hq_S)} {s : hq_S} {y : (Int32 × hq_S)} (hd : 7 ≤ d) (e129 : ∀ (a1 : Int32) (a2 : Int32) (a3 : Int32) (a4 : Int32) (s : hq_S), q129 a1 a2 a3 a4 s = some y → hq_R (mm_O xs) d mc_X12_boldsOf 129 [some (.ref 174), some (.int a1), some (.int a2), some (.int a3), some (.int a4)] [] s g (some (.int y.1)) y.2) (h : f_X12_boldsOf_L129_B n q129 a1 a2 a3 a4 s = some y) : hq_R (mm_O xs) d mc_X12_boldsOf 129 [some (.ref 174), some (.int a1), some (.int a2), some (.int a3), some (.int a4)] [] s g (some (.int y.1)) y.2 := by
  unfold f_X12_boldsOf_L129_B at h
  refine hq_p 2 133 [some (.ref 174), some (.int a1), some (.int a2), some (.int a3), some (.int a4)] [.int (10 : Int32), .int a4] (fun n h => rfl) ?_
  by_cases c8 : a4 < (10 : Int32)
  · rw [if_pos c8] at h
    refine hq_icF rfl (hq_c_ge_F c8) ?_
    refine hq_p 2 139 [some (.ref 174), some (.int a1), some (.int a2), some (.int a3), some (.int a4)] [.int a4, .ref 174] (fun n h => rfl) ?_
    obtain ⟨s10, hs10, h⟩ := hq_bind h
    refine hq_pfi rfl rfl rfl rfl rfl hs10 ?_
    refine hq_p 3 145 [some (.ref 174), some (.int a1), some (.int a2), some (.int a3), some (.int a4)] [.int a2, .ref 174, .int a3] (fun n h => rfl) ?_
    obtain ⟨y11, hy11, h⟩ := hq_bind h
    refine hq_inv rfl rfl (Nat.le_trans (by decide) hd) rfl rfl (hq_rcv rfl rfl) (f_X12_fitsBold_run (Nat.le_sub_of_add_le (Nat.le_trans (by decide) hd)) hy11) rfl ?_
    obtain ⟨z12, hz12, h⟩ := hq_bind h
    suffices hT : hq_R (mm_O xs) d mc_X12_boldsOf 159 [some (.ref 174), some (.int a1), some (.int a2), some (.int a3), some (.int a4)] [.int z12, .int a3] y11.2 g (some (.int y.1)) y.2 from by
      clear h
      have h := hz12
      by_cases c13 : y11.1 = 0
      · rw [if_pos c13] at h
        refine hq_izT rfl (hq_c_eq_T c13) ?_
        refine hq_p 1 159 [some (.ref 174), some (.int a1), some (.int a2), some (.int a3), some (.int a4)] [.int (0 : Int32), .int a3] (fun n h => rfl) ?_
        cases h
        exact hT
      · rw [if_neg c13] at h
        refine hq_izF rfl (hq_c_eq_F c13) ?_
        refine hq_p 4 159 [some (.ref 174), some (.int a1), some (.int a2), some (.int a3), some (.int a4)] [.int ((1 : Int32) <<< (a4 &&& 31)), .int a3] (fun n h => rfl) ?_
        cases h
        exact hT
    refine hq_p 4 129 [some (.ref 174), some (.int a1), some (.int a2), some (.int (a3 ||| z12)), some (.int (a4 + (1 : Int32)))] [] (fun n h => rfl) ?_
    exact e129 a1 a2 (a3 ||| z12) (a4 + (1 : Int32)) y11.2 h
  · rw [if_neg c8] at h
    refine hq_icT rfl (hq_c_ge_T c8) ?_
    refine hq_p 1 168 [some (.ref 174), some (.int a1), some (.int a2), some (.int a3), some (.int a4)] [.ref 174] (fun n h => rfl) ?_
    refine hq_icn (-1 : Int32) rfl (by decide) ?_
    obtain ⟨s9, hs9, h⟩ := hq_bind h
    refine hq_pfi rfl rfl rfl rfl rfl hs9 ?_
    refine hq_p 1 173 [some (.ref 174), some (.int a1), some (.int a2), some (.int a3), some (.int a4)] [.int a3] (fun n h => rfl) ?_
    have h := Option.some.inj h
    subst h
    exact ⟨1, rfl⟩
theorem f_X12_boldsOf_L129_run {xs : List Int32} {n m d g : Nat} {a1 : Int32} {a2 : Int32} {a3 : Int32} {a4 : Int32} {s : hq_S} {y : (Int32 × hq_S)} (hd : 7 ≤ d) (h : f_X12_boldsOf_L129 n m a1 a2 a3 a4 s = some y) : hq_R (mm_O xs) d mc_X12_boldsOf 129 [some (.ref 174), some (.int a1), some (.int a2), some (.int a3), some (.int a4)] [] s g (some (.int y.1)) y.2 := by
  induction m generalizing a1 a2 a3 a4 s with
  | zero => cases h
  | succ m ih => exact f_X12_boldsOf_L129_Brun (n := n) hd (fun a1 a2 a3 a4 s h => ih h) h
def f_X12_boldsOf_L75_B (n : Nat) (q75 : Int32 → Int32 → Int32 → hq_S → Option (Int32 × hq_S)) (a1 : Int32) (a2 : Int32) (a3 : Int32) (s : hq_S) : Option (Int32 × hq_S) := (f_X12_knownMany n s).bind fun y5 => if a3 < y5.1 then (hq_ld y5.2 229 24 a3).bind fun x14 => (if x14 = 0 then (hq_ld y5.2 228 24 a3).bind fun x17 => if x17 = (-1 : Int32) then (hq_ld y5.2 224 24 a3).bind fun x19 => some (hq_max a2 x19) else some a2 else some a2).bind fun z15 => q75 a1 z15 (a3 + (1 : Int32)) y5.2 else (hq_pi y5.2 174 53 0 a1).bind fun s7 => f_X12_boldsOf_L129 n n a1 a2 (0 : Int32) (0 : Int32) s7
def f_X12_boldsOf_L75 (n : Nat) (m : Nat) : Int32 → Int32 → Int32 → hq_S → Option (Int32 × hq_S) := Nat.rec (fun _ _ _ _ => none) (fun _ q => f_X12_boldsOf_L75_B n q) m
theorem f_X12_boldsOf_L75_Brun {xs : List Int32} {n d g : Nat} {a1 : Int32} {a2 : Int32} {a3 : Int32} {q75 : Int32 → Int32 → Int32 → hq_S → Option (Int32 × hq_S)} {s : hq_S} {y : (Int32 × hq_S)} (hd : 7 ≤ d) (e75 : ∀ (a1 : Int32) (a2 : Int32) (a3 : Int32) (s : hq_S), q75 a1 a2 a3 s = some y → hq_R (mm_O xs) d mc_X12_boldsOf 75 [some (.ref 174), some (.int a1), some (.int a2), some (.int a3), none] [] s g (some (.int y.1)) y.2) (h : f_X12_boldsOf_L75_B n q75 a1 a2 a3 s = some y) : hq_R (mm_O xs) d mc_X12_boldsOf 75 [some (.ref 174), some (.int a1), some (.int a2), some (.int a3), none] [] s g (some (.int y.1)) y.2 := by
  unfold f_X12_boldsOf_L75_B at h
  refine hq_p 2 77 [some (.ref 174), some (.int a1), some (.int a2), some (.int a3), none] [.ref 174, .int a3] (fun n h => rfl) ?_
  obtain ⟨y5, hy5, h⟩ := hq_bind h
  refine hq_inv rfl rfl (Nat.le_trans (by decide) hd) rfl rfl (hq_rcv rfl rfl) (f_X12_knownMany_run (Nat.le_sub_of_add_le (Nat.le_trans (by decide) hd)) hy5) rfl ?_
  by_cases c6 : a3 < y5.1
  · rw [if_pos c6] at h
    refine hq_icF rfl (hq_c_ge_F c6) ?_
    refine hq_p 1 84 [some (.ref 174), some (.int a1), some (.int a2), some (.int a3), none] [.ref 174] (fun n h => rfl) ?_
    refine hq_gf (x := .ref 229) rfl rfl rfl rfl rfl ?_
    refine hq_p 1 88 [some (.ref 174), some (.int a1), some (.int a2), some (.int a3), none] [.int a3, .ref 229] (fun n h => rfl) ?_
    obtain ⟨x14, hx14, h⟩ := hq_bind h
    refine hq_baload rfl rfl (by decide) List.length_replicate hx14 ?_
    obtain ⟨z15, hz15, h⟩ := hq_bind h
    suffices hT : hq_R (mm_O xs) d mc_X12_boldsOf 113 [some (.ref 174), some (.int a1), some (.int z15), some (.int a3), none] [] y5.2 g (some (.int y.1)) y.2 from by
      clear h
      have h := hz15
      by_cases c16 : x14 = 0
      · rw [if_pos c16] at h
        refine hq_izF rfl (hq_c_ne_F c16) ?_
        refine hq_p 1 93 [some (.ref 174), some (.int a1), some (.int a2), some (.int a3), none] [.ref 174] (fun n h => rfl) ?_
        refine hq_gf (x := .ref 228) rfl rfl rfl rfl rfl ?_
        refine hq_p 1 97 [some (.ref 174), some (.int a1), some (.int a2), some (.int a3), none] [.int a3, .ref 228] (fun n h => rfl) ?_
        obtain ⟨x17, hx17, h⟩ := hq_bind h
        refine hq_iaload rfl rfl List.length_replicate hx17 ?_
        refine hq_icn (-1 : Int32) rfl (by decide) ?_
        by_cases c18 : x17 = (-1 : Int32)
        · rw [if_pos c18] at h
          refine hq_icF rfl (hq_c_ne_F c18) ?_
          refine hq_p 2 104 [some (.ref 174), some (.int a1), some (.int a2), some (.int a3), none] [.ref 174, .int a2] (fun n h => rfl) ?_
          refine hq_gf (x := .ref 224) rfl rfl rfl rfl rfl ?_
          refine hq_p 1 108 [some (.ref 174), some (.int a1), some (.int a2), some (.int a3), none] [.int a3, .ref 224, .int a2] (fun n h => rfl) ?_
          obtain ⟨x19, hx19, h⟩ := hq_bind h
          refine hq_iaload rfl rfl List.length_replicate hx19 ?_
          refine hq_math rfl rfl rfl (Nat.le_trans (by decide) hd) ?_
          refine hq_p 1 113 [some (.ref 174), some (.int a1), some (.int (hq_max a2 x19)), some (.int a3), none] [] (fun n h => rfl) ?_
          cases h
          exact hT
        · rw [if_neg c18] at h
          refine hq_icT rfl (hq_c_ne_T c18) ?_
          cases h
          exact hT
      · rw [if_neg c16] at h
        refine hq_izT rfl (hq_c_ne_T c16) ?_
        cases h
        exact hT
    refine hq_p 2 75 [some (.ref 174), some (.int a1), some (.int z15), some (.int (a3 + (1 : Int32))), none] [] (fun n h => rfl) ?_
    exact e75 a1 z15 (a3 + (1 : Int32)) y5.2 h
  · rw [if_neg c6] at h
    refine hq_icT rfl (hq_c_ge_T c6) ?_
    refine hq_p 4 123 [some (.ref 174), some (.int a1), some (.int a2), some (.int (0 : Int32)), none] [.int a1, .ref 174] (fun n h => rfl) ?_
    obtain ⟨s7, hs7, h⟩ := hq_bind h
    refine hq_pfi rfl rfl rfl rfl rfl hs7 ?_
    refine hq_p 2 129 [some (.ref 174), some (.int a1), some (.int a2), some (.int (0 : Int32)), some (.int (0 : Int32))] [] (fun n h => rfl) ?_
    exact f_X12_boldsOf_L129_run hd h
theorem f_X12_boldsOf_L75_run {xs : List Int32} {n m d g : Nat} {a1 : Int32} {a2 : Int32} {a3 : Int32} {s : hq_S} {y : (Int32 × hq_S)} (hd : 7 ≤ d) (h : f_X12_boldsOf_L75 n m a1 a2 a3 s = some y) : hq_R (mm_O xs) d mc_X12_boldsOf 75 [some (.ref 174), some (.int a1), some (.int a2), some (.int a3), none] [] s g (some (.int y.1)) y.2 := by
  induction m generalizing a1 a2 a3 s with
  | zero => cases h
  | succ m ih => exact f_X12_boldsOf_L75_Brun (n := n) hd (fun a1 a2 a3 s h => ih h) h
def f_X12_boldsOf_L32_B (n : Nat) (q32 : Int32 → Int32 → Int32 → hq_S → Option (Int32 × hq_S)) (a1 : Int32) (a2 : Int32) (a3 : Int32) (s : hq_S) : Option (Int32 × hq_S) := if a3 < 0 then f_X12_boldsOf_L75 n n a1 a2 (0 : Int32) s else (hq_ld s 229 24 a3).bind fun x20 => (if x20 = 0 then (hq_ld s 228 24 a3).bind fun x23 => if x23 = (-1 : Int32) then some s else (hq_ld s 228 24 a3).bind fun x25 => (hq_st s 229 24 x25 (hq_nar .boolean (1 : Int32))).bind fun s26 => some s26 else some s).bind fun z21 => q32 a1 a2 (a3 + Int32.ofInt (-1)) z21
def f_X12_boldsOf_L32 (n : Nat) (m : Nat) : Int32 → Int32 → Int32 → hq_S → Option (Int32 × hq_S) := Nat.rec (fun _ _ _ _ => none) (fun _ q => f_X12_boldsOf_L32_B n q) m
theorem f_X12_boldsOf_L32_Brun {xs : List Int32} {n d g : Nat} {a1 : Int32} {a2 : Int32} {a3 : Int32} {q32 : Int32 → Int32 → Int32 → hq_S → Option (Int32 × hq_S)} {s : hq_S} {y : (Int32 × hq_S)} (hd : 7 ≤ d) (e32 : ∀ (a1 : Int32) (a2 : Int32) (a3 : Int32) (s : hq_S), q32 a1 a2 a3 s = some y → hq_R (mm_O xs) d mc_X12_boldsOf 32 [some (.ref 174), some (.int a1), some (.int a2), some (.int a3), none] [] s g (some (.int y.1)) y.2) (h : f_X12_boldsOf_L32_B n q32 a1 a2 a3 s = some y) : hq_R (mm_O xs) d mc_X12_boldsOf 32 [some (.ref 174), some (.int a1), some (.int a2), some (.int a3), none] [] s g (some (.int y.1)) y.2 := by
  unfold f_X12_boldsOf_L32_B at h
  refine hq_p 1 33 [some (.ref 174), some (.int a1), some (.int a2), some (.int a3), none] [.int a3] (fun n h => rfl) ?_
  by_cases c4 : a3 < 0
  · rw [if_pos c4] at h
    refine hq_izT rfl (hq_c_lt_T c4) ?_
    refine hq_p 2 75 [some (.ref 174), some (.int a1), some (.int a2), some (.int (0 : Int32)), none] [] (fun n h => rfl) ?_
    exact f_X12_boldsOf_L75_run hd h
  · rw [if_neg c4] at h
    refine hq_izF rfl (hq_c_lt_F c4) ?_
    refine hq_p 1 37 [some (.ref 174), some (.int a1), some (.int a2), some (.int a3), none] [.ref 174] (fun n h => rfl) ?_
    refine hq_gf (x := .ref 229) rfl rfl rfl rfl rfl ?_
    refine hq_p 1 41 [some (.ref 174), some (.int a1), some (.int a2), some (.int a3), none] [.int a3, .ref 229] (fun n h => rfl) ?_
    obtain ⟨x20, hx20, h⟩ := hq_bind h
    refine hq_baload rfl rfl (by decide) List.length_replicate hx20 ?_
    obtain ⟨z21, hz21, h⟩ := hq_bind h
    suffices hT : hq_R (mm_O xs) d mc_X12_boldsOf 67 [some (.ref 174), some (.int a1), some (.int a2), some (.int a3), none] [] z21 g (some (.int y.1)) y.2 from by
      clear h
      have h := hz21
      by_cases c22 : x20 = 0
      · rw [if_pos c22] at h
        refine hq_izF rfl (hq_c_ne_F c22) ?_
        refine hq_p 1 46 [some (.ref 174), some (.int a1), some (.int a2), some (.int a3), none] [.ref 174] (fun n h => rfl) ?_
        refine hq_gf (x := .ref 228) rfl rfl rfl rfl rfl ?_
        refine hq_p 1 50 [some (.ref 174), some (.int a1), some (.int a2), some (.int a3), none] [.int a3, .ref 228] (fun n h => rfl) ?_
        obtain ⟨x23, hx23, h⟩ := hq_bind h
        refine hq_iaload rfl rfl List.length_replicate hx23 ?_
        refine hq_icn (-1 : Int32) rfl (by decide) ?_
        by_cases c24 : x23 = (-1 : Int32)
        · rw [if_pos c24] at h
          refine hq_icT rfl (hq_c_eq_T c24) ?_
          cases h
          exact hT
        · rw [if_neg c24] at h
          refine hq_icF rfl (hq_c_eq_F c24) ?_
          refine hq_p 1 56 [some (.ref 174), some (.int a1), some (.int a2), some (.int a3), none] [.ref 174] (fun n h => rfl) ?_
          refine hq_gf (x := .ref 229) rfl rfl rfl rfl rfl ?_
          refine hq_p 1 60 [some (.ref 174), some (.int a1), some (.int a2), some (.int a3), none] [.ref 174, .ref 229] (fun n h => rfl) ?_
          refine hq_gf (x := .ref 228) rfl rfl rfl rfl rfl ?_
          refine hq_p 1 64 [some (.ref 174), some (.int a1), some (.int a2), some (.int a3), none] [.int a3, .ref 228, .ref 229] (fun n h => rfl) ?_
          obtain ⟨x25, hx25, h⟩ := hq_bind h
          refine hq_iaload rfl rfl List.length_replicate hx25 ?_
          refine hq_p 1 66 [some (.ref 174), some (.int a1), some (.int a2), some (.int a3), none] [.int (1 : Int32), .int x25, .ref 229] (fun n h => rfl) ?_
          obtain ⟨s26, hs26, h⟩ := hq_bind h
          refine hq_bastore rfl rfl (by decide) List.length_replicate hs26 ?_
          cases h
          exact hT
      · rw [if_neg c22] at h
        refine hq_izT rfl (hq_c_ne_T c22) ?_
        cases h
        exact hT
    refine hq_iinc (a3 + Int32.ofInt (-1)) [some (.ref 174), some (.int a1), some (.int a2), some (.int (a3 + Int32.ofInt (-1))), none] rfl rfl rfl rfl ?_
    refine hq_p 1 32 [some (.ref 174), some (.int a1), some (.int a2), some (.int (a3 + Int32.ofInt (-1))), none] [] (fun n h => rfl) ?_
    exact e32 a1 a2 (a3 + Int32.ofInt (-1)) z21 h
theorem f_X12_boldsOf_L32_run {xs : List Int32} {n m d g : Nat} {a1 : Int32} {a2 : Int32} {a3 : Int32} {s : hq_S} {y : (Int32 × hq_S)} (hd : 7 ≤ d) (h : f_X12_boldsOf_L32 n m a1 a2 a3 s = some y) : hq_R (mm_O xs) d mc_X12_boldsOf 32 [some (.ref 174), some (.int a1), some (.int a2), some (.int a3), none] [] s g (some (.int y.1)) y.2 := by
  induction m generalizing a1 a2 a3 s with
  | zero => cases h
  | succ m ih => exact f_X12_boldsOf_L32_Brun (n := n) hd (fun a1 a2 a3 s h => ih h) h
def f_X12_boldsOf_L4_B (n : Nat) (q4 : Int32 → Int32 → Int32 → hq_S → Option (Int32 × hq_S)) (a1 : Int32) (a2 : Int32) (a3 : Int32) (s : hq_S) : Option (Int32 × hq_S) := (f_X12_knownMany n s).bind fun y1 => if a3 < y1.1 then (hq_st y1.2 229 24 a3 (hq_nar .boolean (0 : Int32))).bind fun s27 => q4 a1 a2 (a3 + (1 : Int32)) s27 else (f_X12_knownMany n y1.2).bind fun y3 => f_X12_boldsOf_L32 n n a1 a2 (y3.1 - (1 : Int32)) y3.2
def f_X12_boldsOf_L4 (n : Nat) (m : Nat) : Int32 → Int32 → Int32 → hq_S → Option (Int32 × hq_S) := Nat.rec (fun _ _ _ _ => none) (fun _ q => f_X12_boldsOf_L4_B n q) m
theorem f_X12_boldsOf_L4_Brun {xs : List Int32} {n d g : Nat} {a1 : Int32} {a2 : Int32} {a3 : Int32} {q4 : Int32 → Int32 → Int32 → hq_S → Option (Int32 × hq_S)} {s : hq_S} {y : (Int32 × hq_S)} (hd : 7 ≤ d) (e4 : ∀ (a1 : Int32) (a2 : Int32) (a3 : Int32) (s : hq_S), q4 a1 a2 a3 s = some y → hq_R (mm_O xs) d mc_X12_boldsOf 4 [some (.ref 174), some (.int a1), some (.int a2), some (.int a3), none] [] s g (some (.int y.1)) y.2) (h : f_X12_boldsOf_L4_B n q4 a1 a2 a3 s = some y) : hq_R (mm_O xs) d mc_X12_boldsOf 4 [some (.ref 174), some (.int a1), some (.int a2), some (.int a3), none] [] s g (some (.int y.1)) y.2 := by
  unfold f_X12_boldsOf_L4_B at h
  refine hq_p 2 6 [some (.ref 174), some (.int a1), some (.int a2), some (.int a3), none] [.ref 174, .int a3] (fun n h => rfl) ?_
  obtain ⟨y1, hy1, h⟩ := hq_bind h
  refine hq_inv rfl rfl (Nat.le_trans (by decide) hd) rfl rfl (hq_rcv rfl rfl) (f_X12_knownMany_run (Nat.le_sub_of_add_le (Nat.le_trans (by decide) hd)) hy1) rfl ?_
  by_cases c2 : a3 < y1.1
  · rw [if_pos c2] at h
    refine hq_icF rfl (hq_c_ge_F c2) ?_
    refine hq_p 1 13 [some (.ref 174), some (.int a1), some (.int a2), some (.int a3), none] [.ref 174] (fun n h => rfl) ?_
    refine hq_gf (x := .ref 229) rfl rfl rfl rfl rfl ?_
    refine hq_p 2 18 [some (.ref 174), some (.int a1), some (.int a2), some (.int a3), none] [.int (0 : Int32), .int a3, .ref 229] (fun n h => rfl) ?_
    obtain ⟨s27, hs27, h⟩ := hq_bind h
    refine hq_bastore rfl rfl (by decide) List.length_replicate hs27 ?_
    refine hq_p 2 4 [some (.ref 174), some (.int a1), some (.int a2), some (.int (a3 + (1 : Int32))), none] [] (fun n h => rfl) ?_
    exact e4 a1 a2 (a3 + (1 : Int32)) s27 h
  · rw [if_neg c2] at h
    refine hq_icT rfl (hq_c_ge_T c2) ?_
    refine hq_p 1 26 [some (.ref 174), some (.int a1), some (.int a2), some (.int a3), none] [.ref 174] (fun n h => rfl) ?_
    obtain ⟨y3, hy3, h⟩ := hq_bind h
    refine hq_inv rfl rfl (Nat.le_trans (by decide) hd) rfl rfl (hq_rcv rfl rfl) (f_X12_knownMany_run (Nat.le_sub_of_add_le (Nat.le_trans (by decide) hd)) hy3) rfl ?_
    refine hq_p 3 32 [some (.ref 174), some (.int a1), some (.int a2), some (.int (y3.1 - (1 : Int32))), none] [] (fun n h => rfl) ?_
    exact f_X12_boldsOf_L32_run hd h
theorem f_X12_boldsOf_L4_run {xs : List Int32} {n m d g : Nat} {a1 : Int32} {a2 : Int32} {a3 : Int32} {s : hq_S} {y : (Int32 × hq_S)} (hd : 7 ≤ d) (h : f_X12_boldsOf_L4 n m a1 a2 a3 s = some y) : hq_R (mm_O xs) d mc_X12_boldsOf 4 [some (.ref 174), some (.int a1), some (.int a2), some (.int a3), none] [] s g (some (.int y.1)) y.2 := by
  induction m generalizing a1 a2 a3 s with
  | zero => cases h
  | succ m ih => exact f_X12_boldsOf_L4_Brun (n := n) hd (fun a1 a2 a3 s h => ih h) h
def f_X12_boldsOf (n : Nat) (a1 : Int32) (s : hq_S) : Option (Int32 × hq_S) := f_X12_boldsOf_L4 n n a1 (0 : Int32) (0 : Int32) s
theorem f_X12_boldsOf_run {xs : List Int32} {n d g : Nat} {a1 : Int32} {s : hq_S} {y : (Int32 × hq_S)} (hd : 7 ≤ d) (h : f_X12_boldsOf n a1 s = some y) : hq_R (mm_O xs) d mc_X12_boldsOf 0 [some (.ref 174), some (.int a1), none, none, none] [] s g (some (.int y.1)) y.2 := by
  unfold f_X12_boldsOf at h
  refine hq_p 4 4 [some (.ref 174), some (.int a1), some (.int (0 : Int32)), some (.int (0 : Int32)), none] [] (fun n h => rfl) ?_
  exact f_X12_boldsOf_L4_run hd h
def f_X12_bolds (n : Nat) (a1 : Int32) (s : hq_S) : Option (Int32 × hq_S) := (hq_pi s 174 0 0 (0 : Int32)).bind fun s1 => (f_X12_isThief n a1 s1).bind fun y2 => if y2.1 = 0 then some ((-1 : Int32), y2.2) else (f_X12_boldsOf n a1 y2.2).bind fun y4 => some (y4.1, y4.2)
theorem f_X12_bolds_run {xs : List Int32} {n d g : Nat} {a1 : Int32} {s : hq_S} {y : (Int32 × hq_S)} (hd : 8 ≤ d) (h : f_X12_bolds n a1 s = some y) : hq_R (mm_O xs) d mc_X12_bolds 0 [some (.ref 174), some (.int a1)] [] s g (some (.int y.1)) y.2 := by
  unfold f_X12_bolds at h
  refine hq_p 2 2 [some (.ref 174), some (.int a1)] [.int (0 : Int32), .ref 174] (fun n h => rfl) ?_
  obtain ⟨s1, hs1, h⟩ := hq_bind h
  refine hq_pfi rfl rfl rfl rfl rfl hs1 ?_
  refine hq_p 2 7 [some (.ref 174), some (.int a1)] [.int a1, .ref 174] (fun n h => rfl) ?_
  obtain ⟨y2, hy2, h⟩ := hq_bind h
  refine hq_inv rfl rfl (Nat.le_trans (by decide) hd) rfl rfl (hq_rcv rfl rfl) (f_X12_isThief_run (Nat.le_sub_of_add_le (Nat.le_trans (by decide) hd)) hy2) rfl ?_
  by_cases c3 : y2.1 = 0
  · rw [if_pos c3] at h
    refine hq_izT rfl (hq_c_eq_T c3) ?_
    refine hq_icn (-1 : Int32) rfl (by decide) ?_
    have h := Option.some.inj h
    subst h
    exact ⟨1, rfl⟩
  · rw [if_neg c3] at h
    refine hq_izF rfl (hq_c_eq_F c3) ?_
    refine hq_p 2 15 [some (.ref 174), some (.int a1)] [.int a1, .ref 174] (fun n h => rfl) ?_
    obtain ⟨y4, hy4, h⟩ := hq_bind h
    refine hq_inv rfl rfl (Nat.le_trans (by decide) hd) rfl rfl (hq_rcv rfl rfl) (f_X12_boldsOf_run (Nat.le_sub_of_add_le (Nat.le_trans (by decide) hd)) hy4) rfl ?_
    refine hq_p 1 22 [some (.ref 174), some (.int a1)] [.int y4.1] (fun n h => rfl) ?_
    have h := Option.some.inj h
    subst h
    exact ⟨1, rfl⟩
