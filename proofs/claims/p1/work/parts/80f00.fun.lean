def f_X0_fitTo_L19_B (n : Nat) (q19 : Nat → Int32 → Int32 → hq_S → Option hq_S) (k1 : Nat) (a2 : Int32) (a3 : Int32) (s : hq_S) : Option hq_S := if a3 < (10 : Int32) then (hq_ld s (k1 + 1) 10 a3).bind fun x8 => (hq_ld s 153 10 a3).bind fun x9 => (if x9 = (x8 ||| ((1 : Int32) <<< (a3 &&& 31))) then some (1 : Int32) else some (0 : Int32)).bind fun z10 => (hq_st s 153 10 a3 (x8 ||| ((1 : Int32) <<< (a3 &&& 31)))).bind fun s12 => q19 k1 (a2 &&& z10) (a3 + (1 : Int32)) s12 else (hq_pi s 152 0 0 (hq_gi s k1 0)).bind fun s4 => if a2 = 0 then (hq_pi s4 152 2 0 (0 : Int32)).bind fun s6 => (hq_pi s6 152 9 1 (0 : Int32)).bind fun s7 => some s7 else some s4
def f_X0_fitTo_L19 (n : Nat) (m : Nat) : Nat → Int32 → Int32 → hq_S → Option hq_S := Nat.rec (fun _ _ _ _ => none) (fun _ q => f_X0_fitTo_L19_B n q) m
theorem f_X0_fitTo_L19_Brun {xs : List Int32} {n d g : Nat} {k1 : Nat} {a2 : Int32} {a3 : Int32} {o4 : Option Value} {q19 : Nat → Int32 → Int32 → hq_S → Option hq_S} {s : hq_S} {y : hq_S} (hd : 0 ≤ d) (e19 : ∀ (k1 : Nat) (a2 : Int32) (a3 : Int32) (o4 : Option Value) (s : hq_S) (m1_ : hq_isS k1), q19 k1 a2 a3 s = some y → hq_R (mm_O xs) d mc_X0_fitTo 19 [some (.ref 152), some (.ref k1), some (.int a2), some (.int a3), o4] [] s g none y) (m1_ : hq_isS k1) (h : f_X0_fitTo_L19_B n q19 k1 a2 a3 s = some y) : hq_R (mm_O xs) d mc_X0_fitTo 19 [some (.ref 152), some (.ref k1), some (.int a2), some (.int a3), o4] [] s g none y := by
  unfold f_X0_fitTo_L19_B at h
  refine hq_p 2 22 [some (.ref 152), some (.ref k1), some (.int a2), some (.int a3), o4] [.int (10 : Int32), .int a3] (fun n h => rfl) ?_
  by_cases c3 : a3 < (10 : Int32)
  · rw [if_pos c3] at h
    refine hq_icF rfl (hq_c_ge_F c3) ?_
    refine hq_p 1 26 [some (.ref 152), some (.ref k1), some (.int a2), some (.int a3), o4] [.ref k1] (fun n h => rfl) ?_
    refine hq_gf (x := .ref (k1 + 1)) rfl (hq_shS m1_) rfl rfl (hq_fldr (hq_shS_u m1_)) ?_
    refine hq_p 1 30 [some (.ref 152), some (.ref k1), some (.int a2), some (.int a3), o4] [.int a3, .ref (k1 + 1)] (fun n h => rfl) ?_
    obtain ⟨x8, hx8, h⟩ := hq_bind h
    refine hq_iaload rfl (hq_shS_1 m1_) List.length_replicate hx8 ?_
    refine hq_p 7 39 [some (.ref 152), some (.ref k1), some (.int a2), some (.int a3), some (.int (x8 ||| ((1 : Int32) <<< (a3 &&& 31))))] [.ref 152, .int a2] (fun n h => rfl) ?_
    refine hq_gf (x := .ref 153) rfl rfl rfl rfl rfl ?_
    refine hq_p 1 43 [some (.ref 152), some (.ref k1), some (.int a2), some (.int a3), some (.int (x8 ||| ((1 : Int32) <<< (a3 &&& 31))))] [.int a3, .ref 153, .int a2] (fun n h => rfl) ?_
    obtain ⟨x9, hx9, h⟩ := hq_bind h
    refine hq_iaload rfl rfl List.length_replicate hx9 ?_
    refine hq_p 1 46 [some (.ref 152), some (.ref k1), some (.int a2), some (.int a3), some (.int (x8 ||| ((1 : Int32) <<< (a3 &&& 31))))] [.int (x8 ||| ((1 : Int32) <<< (a3 &&& 31))), .int x9, .int a2] (fun n h => rfl) ?_
    obtain ⟨z10, hz10, h⟩ := hq_bind h
    suffices hT : hq_R (mm_O xs) d mc_X0_fitTo 54 [some (.ref 152), some (.ref k1), some (.int a2), some (.int a3), some (.int (x8 ||| ((1 : Int32) <<< (a3 &&& 31))))] [.int z10, .int a2] s g none y from by
      clear h
      have h := hz10
      by_cases c11 : x9 = (x8 ||| ((1 : Int32) <<< (a3 &&& 31)))
      · rw [if_pos c11] at h
        refine hq_icF rfl (hq_c_ne_F c11) ?_
        refine hq_p 2 54 [some (.ref 152), some (.ref k1), some (.int a2), some (.int a3), some (.int (x8 ||| ((1 : Int32) <<< (a3 &&& 31))))] [.int (1 : Int32), .int a2] (fun n h => rfl) ?_
        cases h
        exact hT
      · rw [if_neg c11] at h
        refine hq_icT rfl (hq_c_ne_T c11) ?_
        refine hq_p 1 54 [some (.ref 152), some (.ref k1), some (.int a2), some (.int a3), some (.int (x8 ||| ((1 : Int32) <<< (a3 &&& 31))))] [.int (0 : Int32), .int a2] (fun n h => rfl) ?_
        cases h
        exact hT
    refine hq_p 3 57 [some (.ref 152), some (.ref k1), some (.int (a2 &&& z10)), some (.int a3), some (.int (x8 ||| ((1 : Int32) <<< (a3 &&& 31))))] [.ref 152] (fun n h => rfl) ?_
    refine hq_gf (x := .ref 153) rfl rfl rfl rfl rfl ?_
    refine hq_p 2 63 [some (.ref 152), some (.ref k1), some (.int (a2 &&& z10)), some (.int a3), some (.int (x8 ||| ((1 : Int32) <<< (a3 &&& 31))))] [.int (x8 ||| ((1 : Int32) <<< (a3 &&& 31))), .int a3, .ref 153] (fun n h => rfl) ?_
    obtain ⟨s12, hs12, h⟩ := hq_bind h
    refine hq_iastore rfl rfl List.length_replicate hs12 ?_
    refine hq_p 2 19 [some (.ref 152), some (.ref k1), some (.int (a2 &&& z10)), some (.int (a3 + (1 : Int32))), some (.int (x8 ||| ((1 : Int32) <<< (a3 &&& 31))))] [] (fun n h => rfl) ?_
    exact e19 k1 (a2 &&& z10) (a3 + (1 : Int32)) _ s12 m1_ h
  · rw [if_neg c3] at h
    refine hq_icT rfl (hq_c_ge_T c3) ?_
    refine hq_p 2 72 [some (.ref 152), some (.ref k1), some (.int a2), some (.int a3), o4] [.ref k1, .ref 152] (fun n h => rfl) ?_
    refine hq_gf (x := .int (hq_gi s k1 0)) rfl (hq_shS m1_) rfl rfl rfl ?_
    obtain ⟨s4, hs4, h⟩ := hq_bind h
    refine hq_pfi rfl rfl rfl rfl rfl hs4 ?_
    refine hq_p 1 79 [some (.ref 152), some (.ref k1), some (.int a2), some (.int a3), o4] [.int a2] (fun n h => rfl) ?_
    by_cases c5 : a2 = 0
    · rw [if_pos c5] at h
      refine hq_izF rfl (hq_c_ne_F c5) ?_
      refine hq_p 2 84 [some (.ref 152), some (.ref k1), some (.int a2), some (.int a3), o4] [.int (0 : Int32), .ref 152] (fun n h => rfl) ?_
      obtain ⟨s6, hs6, h⟩ := hq_bind h
      refine hq_pfi rfl rfl rfl rfl rfl hs6 ?_
      refine hq_p 2 89 [some (.ref 152), some (.ref k1), some (.int a2), some (.int a3), o4] [.int (0 : Int32), .ref 152] (fun n h => rfl) ?_
      obtain ⟨s7, hs7, h⟩ := hq_bind h
      refine hq_pfi rfl rfl rfl rfl rfl hs7 ?_
      have h := Option.some.inj h
      subst h
      exact ⟨1, rfl⟩
    · rw [if_neg c5] at h
      refine hq_izT rfl (hq_c_ne_T c5) ?_
      have h := Option.some.inj h
      subst h
      exact ⟨1, rfl⟩
theorem f_X0_fitTo_L19_run {xs : List Int32} {n m d g : Nat} {k1 : Nat} {a2 : Int32} {a3 : Int32} {o4 : Option Value} {s : hq_S} {y : hq_S} (hd : 0 ≤ d) (m1_ : hq_isS k1) (h : f_X0_fitTo_L19 n m k1 a2 a3 s = some y) : hq_R (mm_O xs) d mc_X0_fitTo 19 [some (.ref 152), some (.ref k1), some (.int a2), some (.int a3), o4] [] s g none y := by
  induction m generalizing k1 a2 a3 o4 s with
  | zero => cases h
  | succ m ih => exact f_X0_fitTo_L19_Brun (n := n) hd (fun k1 a2 a3 o4 s m1_ h => ih m1_ h) m1_ h
def f_X0_fitTo (n : Nat) (k1 : Nat) (s : hq_S) : Option hq_S := (if (hq_gi s 152 0) = (hq_gi s k1 0) then some (1 : Int32) else some (0 : Int32)).bind fun z1 => f_X0_fitTo_L19 n n k1 z1 (0 : Int32) s
theorem f_X0_fitTo_run {xs : List Int32} {n d g : Nat} {k1 : Nat} {s : hq_S} {y : hq_S} (hd : 0 ≤ d) (m1_ : hq_isS k1) (h : f_X0_fitTo n k1 s = some y) : hq_R (mm_O xs) d mc_X0_fitTo 0 [some (.ref 152), some (.ref k1), none, none, none] [] s g none y := by
  unfold f_X0_fitTo at h
  refine hq_p 1 1 [some (.ref 152), some (.ref k1), none, none, none] [.ref 152] (fun n h => rfl) ?_
  refine hq_gf (x := .int (hq_gi s 152 0)) rfl rfl rfl rfl rfl ?_
  refine hq_p 1 5 [some (.ref 152), some (.ref k1), none, none, none] [.ref k1, .int (hq_gi s 152 0)] (fun n h => rfl) ?_
  refine hq_gf (x := .int (hq_gi s k1 0)) rfl (hq_shS m1_) rfl rfl rfl ?_
  obtain ⟨z1, hz1, h⟩ := hq_bind h
  suffices hT : hq_R (mm_O xs) d mc_X0_fitTo 16 [some (.ref 152), some (.ref k1), none, none, none] [.int z1] s g none y from by
    clear h
    have h := hz1
    by_cases c2 : (hq_gi s 152 0) = (hq_gi s k1 0)
    · rw [if_pos c2] at h
      refine hq_icF rfl (hq_c_ne_F c2) ?_
      refine hq_p 2 16 [some (.ref 152), some (.ref k1), none, none, none] [.int (1 : Int32)] (fun n h => rfl) ?_
      cases h
      exact hT
    · rw [if_neg c2] at h
      refine hq_icT rfl (hq_c_ne_T c2) ?_
      refine hq_p 1 16 [some (.ref 152), some (.ref k1), none, none, none] [.int (0 : Int32)] (fun n h => rfl) ?_
      cases h
      exact hT
  refine hq_p 3 19 [some (.ref 152), some (.ref k1), some (.int z1), some (.int (0 : Int32)), none] [] (fun n h => rfl) ?_
  exact f_X0_fitTo_L19_run hd m1_ h
def f_X0_noteLost_L13_B (n : Nat) (q13 : Int32 → Int32 → Int32 → Int32 → hq_S → Option hq_S) (a1 : Int32) (a2 : Int32) (a3 : Int32) (a4 : Int32) (s : hq_S) : Option hq_S := if a4 < (hq_gi s 152 0) then (if ((a2 >>> (a4 &&& 31)) &&& (1 : Int32)) = (1 : Int32) then (hq_st s 158 10000 ((a1 * (hq_gi s 152 0)) + a4) a3).bind fun s6 => some s6 else some s).bind fun z4 => q13 a1 a2 a3 (a4 + (1 : Int32)) z4 else some s
def f_X0_noteLost_L13 (n : Nat) (m : Nat) : Int32 → Int32 → Int32 → Int32 → hq_S → Option hq_S := Nat.rec (fun _ _ _ _ _ => none) (fun _ q => f_X0_noteLost_L13_B n q) m
theorem f_X0_noteLost_L13_Brun {xs : List Int32} {n d g : Nat} {a1 : Int32} {a2 : Int32} {a3 : Int32} {a4 : Int32} {q13 : Int32 → Int32 → Int32 → Int32 → hq_S → Option hq_S} {s : hq_S} {y : hq_S} (hd : 0 ≤ d) (e13 : ∀ (a1 : Int32) (a2 : Int32) (a3 : Int32) (a4 : Int32) (s : hq_S), q13 a1 a2 a3 a4 s = some y → hq_R (mm_O xs) d mc_X0_noteLost 13 [some (.ref 152), some (.int a1), some (.int a2), some (.int a3), some (.int a4)] [] s g none y) (h : f_X0_noteLost_L13_B n q13 a1 a2 a3 a4 s = some y) : hq_R (mm_O xs) d mc_X0_noteLost 13 [some (.ref 152), some (.int a1), some (.int a2), some (.int a3), some (.int a4)] [] s g none y := by
  unfold f_X0_noteLost_L13_B at h
  refine hq_p 2 16 [some (.ref 152), some (.int a1), some (.int a2), some (.int a3), some (.int a4)] [.ref 152, .int a4] (fun n h => rfl) ?_
  refine hq_gf (x := .int (hq_gi s 152 0)) rfl rfl rfl rfl rfl ?_
  by_cases c3 : a4 < (hq_gi s 152 0)
  · rw [if_pos c3] at h
    refine hq_icF rfl (hq_c_ge_F c3) ?_
    refine hq_p 6 29 [some (.ref 152), some (.int a1), some (.int a2), some (.int a3), some (.int a4)] [.int (1 : Int32), .int ((a2 >>> (a4 &&& 31)) &&& (1 : Int32))] (fun n h => rfl) ?_
    obtain ⟨z4, hz4, h⟩ := hq_bind h
    suffices hT : hq_R (mm_O xs) d mc_X0_noteLost 47 [some (.ref 152), some (.int a1), some (.int a2), some (.int a3), some (.int a4)] [] z4 g none y from by
      clear h
      have h := hz4
      by_cases c5 : ((a2 >>> (a4 &&& 31)) &&& (1 : Int32)) = (1 : Int32)
      · rw [if_pos c5] at h
        refine hq_icF rfl (hq_c_ne_F c5) ?_
        refine hq_p 1 33 [some (.ref 152), some (.int a1), some (.int a2), some (.int a3), some (.int a4)] [.ref 152] (fun n h => rfl) ?_
        refine hq_gf (x := .ref 158) rfl rfl rfl rfl rfl ?_
        refine hq_p 2 38 [some (.ref 152), some (.int a1), some (.int a2), some (.int a3), some (.int a4)] [.ref 152, .int a1, .ref 158] (fun n h => rfl) ?_
        refine hq_gf (x := .int (hq_gi s 152 0)) rfl rfl rfl rfl rfl ?_
        refine hq_p 4 46 [some (.ref 152), some (.int a1), some (.int a2), some (.int a3), some (.int a4)] [.int a3, .int ((a1 * (hq_gi s 152 0)) + a4), .ref 158] (fun n h => rfl) ?_
        obtain ⟨s6, hs6, h⟩ := hq_bind h
        refine hq_iastore rfl rfl List.length_replicate hs6 ?_
        cases h
        exact hT
      · rw [if_neg c5] at h
        refine hq_icT rfl (hq_c_ne_T c5) ?_
        cases h
        exact hT
    refine hq_p 2 13 [some (.ref 152), some (.int a1), some (.int a2), some (.int a3), some (.int (a4 + (1 : Int32)))] [] (fun n h => rfl) ?_
    exact e13 a1 a2 a3 (a4 + (1 : Int32)) z4 h
  · rw [if_neg c3] at h
    refine hq_icT rfl (hq_c_ge_T c3) ?_
    have h := Option.some.inj h
    subst h
    exact ⟨1, rfl⟩
theorem f_X0_noteLost_L13_run {xs : List Int32} {n m d g : Nat} {a1 : Int32} {a2 : Int32} {a3 : Int32} {a4 : Int32} {s : hq_S} {y : hq_S} (hd : 0 ≤ d) (h : f_X0_noteLost_L13 n m a1 a2 a3 a4 s = some y) : hq_R (mm_O xs) d mc_X0_noteLost 13 [some (.ref 152), some (.int a1), some (.int a2), some (.int a3), some (.int a4)] [] s g none y := by
  induction m generalizing a1 a2 a3 a4 s with
  | zero => cases h
  | succ m ih => exact f_X0_noteLost_L13_Brun (n := n) hd (fun a1 a2 a3 a4 s h => ih h) h
def f_X0_noteLost (n : Nat) (a1 : Int32) (a2 : Int32) (a3 : Int32) (s : hq_S) : Option hq_S := (hq_ld s 155 1000 a1).bind fun x1 => (hq_st s 155 1000 a1 (x1 ||| a2)).bind fun s2 => f_X0_noteLost_L13 n n a1 a2 a3 (0 : Int32) s2
theorem f_X0_noteLost_run {xs : List Int32} {n d g : Nat} {a1 : Int32} {a2 : Int32} {a3 : Int32} {s : hq_S} {y : hq_S} (hd : 0 ≤ d) (h : f_X0_noteLost n a1 a2 a3 s = some y) : hq_R (mm_O xs) d mc_X0_noteLost 0 [some (.ref 152), some (.int a1), some (.int a2), some (.int a3), none] [] s g none y := by
  unfold f_X0_noteLost at h
  refine hq_p 1 1 [some (.ref 152), some (.int a1), some (.int a2), some (.int a3), none] [.ref 152] (fun n h => rfl) ?_
  refine hq_gf (x := .ref 155) rfl rfl rfl rfl rfl ?_
  refine hq_p 2 6 [some (.ref 152), some (.int a1), some (.int a2), some (.int a3), none] [.int a1, .ref 155, .int a1, .ref 155] (fun n h => rfl) ?_
  obtain ⟨x1, hx1, h⟩ := hq_bind h
  refine hq_iaload rfl rfl List.length_replicate hx1 ?_
  refine hq_p 2 9 [some (.ref 152), some (.int a1), some (.int a2), some (.int a3), none] [.int (x1 ||| a2), .int a1, .ref 155] (fun n h => rfl) ?_
  obtain ⟨s2, hs2, h⟩ := hq_bind h
  refine hq_iastore rfl rfl List.length_replicate hs2 ?_
  refine hq_p 2 13 [some (.ref 152), some (.int a1), some (.int a2), some (.int a3), some (.int (0 : Int32))] [] (fun n h => rfl) ?_
  exact f_X0_noteLost_L13_run hd h
def f_X0_layOut_L125_B (n : Nat) (q125 : Int32 → hq_S → Option hq_S) (a1 : Int32) (s : hq_S) : Option hq_S := if a1 < (hq_gi s 152 3) then (hq_st s 155 1000 a1 (0 : Int32)).bind fun s6 => (hq_ld s6 154 1000 a1).bind fun x7 => (f_X0_noteLost n a1 x7 (0 : Int32) s6).bind fun s8 => q125 (a1 + (1 : Int32)) s8 else some s
def f_X0_layOut_L125 (n : Nat) (m : Nat) : Int32 → hq_S → Option hq_S := Nat.rec (fun _ _ => none) (fun _ q => f_X0_layOut_L125_B n q) m
theorem f_X0_layOut_L125_Brun {xs : List Int32} {n d g : Nat} {a1 : Int32} {o2 : Option Value} {q125 : Int32 → hq_S → Option hq_S} {s : hq_S} {y : hq_S} (hd : 1 ≤ d) (e125 : ∀ (a1 : Int32) (o2 : Option Value) (s : hq_S), q125 a1 s = some y → hq_R (mm_O xs) d mc_X0_layOut 125 [some (.ref 152), some (.int a1), o2] [] s g none y) (h : f_X0_layOut_L125_B n q125 a1 s = some y) : hq_R (mm_O xs) d mc_X0_layOut 125 [some (.ref 152), some (.int a1), o2] [] s g none y := by
  unfold f_X0_layOut_L125_B at h
  refine hq_p 2 127 [some (.ref 152), some (.int a1), o2] [.ref 152, .int a1] (fun n h => rfl) ?_
  refine hq_gf (x := .int (hq_gi s 152 3)) rfl rfl rfl rfl rfl ?_
  by_cases c5 : a1 < (hq_gi s 152 3)
  · rw [if_pos c5] at h
    refine hq_icF rfl (hq_c_ge_F c5) ?_
    refine hq_p 1 134 [some (.ref 152), some (.int a1), o2] [.ref 152] (fun n h => rfl) ?_
    refine hq_gf (x := .ref 155) rfl rfl rfl rfl rfl ?_
    refine hq_p 2 139 [some (.ref 152), some (.int a1), o2] [.int (0 : Int32), .int a1, .ref 155] (fun n h => rfl) ?_
    obtain ⟨s6, hs6, h⟩ := hq_bind h
    refine hq_iastore rfl rfl List.length_replicate hs6 ?_
    refine hq_p 3 143 [some (.ref 152), some (.int a1), o2] [.ref 152, .int a1, .ref 152] (fun n h => rfl) ?_
    refine hq_gf (x := .ref 154) rfl rfl rfl rfl rfl ?_
    refine hq_p 1 147 [some (.ref 152), some (.int a1), o2] [.int a1, .ref 154, .int a1, .ref 152] (fun n h => rfl) ?_
    obtain ⟨x7, hx7, h⟩ := hq_bind h
    refine hq_iaload rfl rfl List.length_replicate hx7 ?_
    refine hq_p 1 149 [some (.ref 152), some (.int a1), o2] [.int (0 : Int32), .int x7, .int a1, .ref 152] (fun n h => rfl) ?_
    obtain ⟨s8, hs8, h⟩ := hq_bind h
    refine hq_inv rfl rfl (Nat.le_trans (by decide) hd) rfl rfl (hq_rcv rfl rfl) (f_X0_noteLost_run (Nat.le_sub_of_add_le (Nat.le_trans (by decide) hd)) hs8) rfl ?_
    refine hq_p 2 125 [some (.ref 152), some (.int (a1 + (1 : Int32))), o2] [] (fun n h => rfl) ?_
    exact e125 (a1 + (1 : Int32)) _ s8 h
  · rw [if_neg c5] at h
    refine hq_icT rfl (hq_c_ge_T c5) ?_
    have h := Option.some.inj h
    subst h
    exact ⟨1, rfl⟩
theorem f_X0_layOut_L125_run {xs : List Int32} {n m d g : Nat} {a1 : Int32} {o2 : Option Value} {s : hq_S} {y : hq_S} (hd : 1 ≤ d) (h : f_X0_layOut_L125 n m a1 s = some y) : hq_R (mm_O xs) d mc_X0_layOut 125 [some (.ref 152), some (.int a1), o2] [] s g none y := by
  induction m generalizing a1 o2 s with
  | zero => cases h
  | succ m ih => exact f_X0_layOut_L125_Brun (n := n) hd (fun a1 o2 s h => ih h) h
def f_X0_layOut_L96_B (n : Nat) (q96 : Int32 → hq_S → Option hq_S) (a1 : Int32) (s : hq_S) : Option hq_S := if a1 < ((hq_gi s 152 3) * (hq_gi s 152 0)) then (hq_st s 158 10000 a1 (2147483647 : Int32)).bind fun s9 => q96 (a1 + (1 : Int32)) s9 else f_X0_layOut_L125 n n (0 : Int32) s
def f_X0_layOut_L96 (n : Nat) (m : Nat) : Int32 → hq_S → Option hq_S := Nat.rec (fun _ _ => none) (fun _ q => f_X0_layOut_L96_B n q) m
theorem f_X0_layOut_L96_Brun {xs : List Int32} {n d g : Nat} {a1 : Int32} {o2 : Option Value} {q96 : Int32 → hq_S → Option hq_S} {s : hq_S} {y : hq_S} (hd : 1 ≤ d) (e96 : ∀ (a1 : Int32) (o2 : Option Value) (s : hq_S), q96 a1 s = some y → hq_R (mm_O xs) d mc_X0_layOut 96 [some (.ref 152), some (.int a1), o2] [] s g none y) (h : f_X0_layOut_L96_B n q96 a1 s = some y) : hq_R (mm_O xs) d mc_X0_layOut 96 [some (.ref 152), some (.int a1), o2] [] s g none y := by
  unfold f_X0_layOut_L96_B at h
  refine hq_p 2 98 [some (.ref 152), some (.int a1), o2] [.ref 152, .int a1] (fun n h => rfl) ?_
  refine hq_gf (x := .int (hq_gi s 152 3)) rfl rfl rfl rfl rfl ?_
  refine hq_p 1 102 [some (.ref 152), some (.int a1), o2] [.ref 152, .int (hq_gi s 152 3), .int a1] (fun n h => rfl) ?_
  refine hq_gf (x := .int (hq_gi s 152 0)) rfl rfl rfl rfl rfl ?_
  refine hq_p 1 106 [some (.ref 152), some (.int a1), o2] [.int ((hq_gi s 152 3) * (hq_gi s 152 0)), .int a1] (fun n h => rfl) ?_
  by_cases c4 : a1 < ((hq_gi s 152 3) * (hq_gi s 152 0))
  · rw [if_pos c4] at h
    refine hq_icF rfl (hq_c_ge_F c4) ?_
    refine hq_p 1 110 [some (.ref 152), some (.int a1), o2] [.ref 152] (fun n h => rfl) ?_
    refine hq_gf (x := .ref 158) rfl rfl rfl rfl rfl ?_
    refine hq_p 1 114 [some (.ref 152), some (.int a1), o2] [.int a1, .ref 158] (fun n h => rfl) ?_
    refine hq_lcn (2147483647 : Int32) rfl (by decide) ?_
    obtain ⟨s9, hs9, h⟩ := hq_bind h
    refine hq_iastore rfl rfl List.length_replicate hs9 ?_
    refine hq_p 2 96 [some (.ref 152), some (.int (a1 + (1 : Int32))), o2] [] (fun n h => rfl) ?_
    exact e96 (a1 + (1 : Int32)) _ s9 h
  · rw [if_neg c4] at h
    refine hq_icT rfl (hq_c_ge_T c4) ?_
    refine hq_p 2 125 [some (.ref 152), some (.int (0 : Int32)), o2] [] (fun n h => rfl) ?_
    exact f_X0_layOut_L125_run hd h
theorem f_X0_layOut_L96_run {xs : List Int32} {n m d g : Nat} {a1 : Int32} {o2 : Option Value} {s : hq_S} {y : hq_S} (hd : 1 ≤ d) (h : f_X0_layOut_L96 n m a1 s = some y) : hq_R (mm_O xs) d mc_X0_layOut 96 [some (.ref 152), some (.int a1), o2] [] s g none y := by
  induction m generalizing a1 o2 s with
  | zero => cases h
  | succ m ih => exact f_X0_layOut_L96_Brun (n := n) hd (fun a1 o2 s h => ih h) h
def f_X0_layOut_J94 (n : Nat) (a1 : Int32) (s : hq_S) : Option hq_S := f_X0_layOut_L96 n n (0 : Int32) s
theorem f_X0_layOut_J94_run {xs : List Int32} {n d g : Nat} {a1 : Int32} {o2 : Option Value} {s : hq_S} {y : hq_S} (hd : 1 ≤ d) (h : f_X0_layOut_J94 n a1 s = some y) : hq_R (mm_O xs) d mc_X0_layOut 94 [some (.ref 152), some (.int a1), o2] [] s g none y := by
  unfold f_X0_layOut_J94 at h
  refine hq_p 2 96 [some (.ref 152), some (.int (0 : Int32)), o2] [] (fun n h => rfl) ?_
  exact f_X0_layOut_L96_run hd h
def f_X0_layOut_L39_B (n : Nat) (q14 : Int32 → hq_S → Option hq_S) (q39 : Int32 → Int32 → hq_S → Option hq_S) (a1 : Int32) (a2 : Int32) (s : hq_S) : Option hq_S := if a2 < 0 then (hq_pi s 152 3 0 ((hq_gi s 152 3) * (hq_gi s 152 0))).bind fun s12 => q14 (a1 + (1 : Int32)) s12 else (hq_idiv a2 (hq_gi s 152 0)).bind fun x13 => (hq_ld s 154 1000 x13).bind fun x14 => (hq_irem a2 (hq_gi s 152 0)).bind fun x15 => (hq_st s 154 1000 a2 (x14 ||| ((1 : Int32) <<< (x15 &&& 31)))).bind fun s16 => q39 a1 (a2 + Int32.ofInt (-1)) s16
def f_X0_layOut_L39 (n : Nat) (q14 : Int32 → hq_S → Option hq_S) (m : Nat) : Int32 → Int32 → hq_S → Option hq_S := Nat.rec (fun _ _ _ => none) (fun _ q => f_X0_layOut_L39_B n q14 q) m
theorem f_X0_layOut_L39_Brun {xs : List Int32} {n d g : Nat} {a1 : Int32} {a2 : Int32} {q14 : Int32 → hq_S → Option hq_S} {q39 : Int32 → Int32 → hq_S → Option hq_S} {s : hq_S} {y : hq_S} (hd : 1 ≤ d) (e14 : ∀ (a1 : Int32) (o2 : Option Value) (s : hq_S), q14 a1 s = some y → hq_R (mm_O xs) d mc_X0_layOut 14 [some (.ref 152), some (.int a1), o2] [] s g none y) (e39 : ∀ (a1 : Int32) (a2 : Int32) (s : hq_S), q39 a1 a2 s = some y → hq_R (mm_O xs) d mc_X0_layOut 39 [some (.ref 152), some (.int a1), some (.int a2)] [] s g none y) (h : f_X0_layOut_L39_B n q14 q39 a1 a2 s = some y) : hq_R (mm_O xs) d mc_X0_layOut 39 [some (.ref 152), some (.int a1), some (.int a2)] [] s g none y := by
  unfold f_X0_layOut_L39_B at h
  refine hq_p 1 40 [some (.ref 152), some (.int a1), some (.int a2)] [.int a2] (fun n h => rfl) ?_
  by_cases c11 : a2 < 0
  · rw [if_pos c11] at h
    refine hq_izT rfl (hq_c_lt_T c11) ?_
    refine hq_p 2 77 [some (.ref 152), some (.int a1), some (.int a2)] [.ref 152, .ref 152] (fun n h => rfl) ?_
    refine hq_gf (x := .int (hq_gi s 152 3)) rfl rfl rfl rfl rfl ?_
    refine hq_p 1 81 [some (.ref 152), some (.int a1), some (.int a2)] [.ref 152, .int (hq_gi s 152 3), .ref 152] (fun n h => rfl) ?_
    refine hq_gf (x := .int (hq_gi s 152 0)) rfl rfl rfl rfl rfl ?_
    refine hq_p 1 85 [some (.ref 152), some (.int a1), some (.int a2)] [.int ((hq_gi s 152 3) * (hq_gi s 152 0)), .ref 152] (fun n h => rfl) ?_
    obtain ⟨s12, hs12, h⟩ := hq_bind h
    refine hq_pfi rfl rfl rfl rfl rfl hs12 ?_
    refine hq_p 2 14 [some (.ref 152), some (.int (a1 + (1 : Int32))), some (.int a2)] [] (fun n h => rfl) ?_
    exact e14 (a1 + (1 : Int32)) _ s12 h
  · rw [if_neg c11] at h
    refine hq_izF rfl (hq_c_lt_F c11) ?_
    refine hq_p 1 44 [some (.ref 152), some (.int a1), some (.int a2)] [.ref 152] (fun n h => rfl) ?_
    refine hq_gf (x := .ref 154) rfl rfl rfl rfl rfl ?_
    refine hq_p 2 49 [some (.ref 152), some (.int a1), some (.int a2)] [.ref 152, .int a2, .ref 154] (fun n h => rfl) ?_
    refine hq_gf (x := .ref 154) rfl rfl rfl rfl rfl ?_
    refine hq_p 2 54 [some (.ref 152), some (.int a1), some (.int a2)] [.ref 152, .int a2, .ref 154, .int a2, .ref 154] (fun n h => rfl) ?_
    refine hq_gf (x := .int (hq_gi s 152 0)) rfl rfl rfl rfl rfl ?_
    obtain ⟨x13, hx13, h⟩ := hq_bind h
    refine hq_idiv_ rfl hx13 ?_
    obtain ⟨x14, hx14, h⟩ := hq_bind h
    refine hq_iaload rfl rfl List.length_replicate hx14 ?_
    refine hq_p 3 62 [some (.ref 152), some (.int a1), some (.int a2)] [.ref 152, .int a2, .int (1 : Int32), .int x14, .int a2, .ref 154] (fun n h => rfl) ?_
    refine hq_gf (x := .int (hq_gi s 152 0)) rfl rfl rfl rfl rfl ?_
    obtain ⟨x15, hx15, h⟩ := hq_bind h
    refine hq_irem_ rfl hx15 ?_
    refine hq_p 2 68 [some (.ref 152), some (.int a1), some (.int a2)] [.int (x14 ||| ((1 : Int32) <<< (x15 &&& 31))), .int a2, .ref 154] (fun n h => rfl) ?_
    obtain ⟨s16, hs16, h⟩ := hq_bind h
    refine hq_iastore rfl rfl List.length_replicate hs16 ?_
    refine hq_iinc (a2 + Int32.ofInt (-1)) [some (.ref 152), some (.int a1), some (.int (a2 + Int32.ofInt (-1)))] rfl rfl rfl rfl ?_
    refine hq_p 1 39 [some (.ref 152), some (.int a1), some (.int (a2 + Int32.ofInt (-1)))] [] (fun n h => rfl) ?_
    exact e39 a1 (a2 + Int32.ofInt (-1)) s16 h
theorem f_X0_layOut_L39_run {xs : List Int32} {n m d g : Nat} {a1 : Int32} {a2 : Int32} {q14 : Int32 → hq_S → Option hq_S} {s : hq_S} {y : hq_S} (hd : 1 ≤ d) (e14 : ∀ (a1 : Int32) (o2 : Option Value) (s : hq_S), q14 a1 s = some y → hq_R (mm_O xs) d mc_X0_layOut 14 [some (.ref 152), some (.int a1), o2] [] s g none y) (h : f_X0_layOut_L39 n q14 m a1 a2 s = some y) : hq_R (mm_O xs) d mc_X0_layOut 39 [some (.ref 152), some (.int a1), some (.int a2)] [] s g none y := by
  induction m generalizing a1 a2 s with
  | zero => cases h
  | succ m ih => exact f_X0_layOut_L39_Brun (n := n) hd e14 (fun a1 a2 s h => ih h) h
def f_X0_layOut_L14_B (n : Nat) (q14 : Int32 → hq_S → Option hq_S) (a1 : Int32) (s : hq_S) : Option hq_S := if a1 < (hq_gi s 152 2) then if a1 < (3 : Int32) then f_X0_layOut_L39 n q14 n a1 (((hq_gi s 152 3) * (hq_gi s 152 0)) - (1 : Int32)) s else f_X0_layOut_J94 n a1 s else f_X0_layOut_J94 n a1 s
def f_X0_layOut_L14 (n : Nat) (m : Nat) : Int32 → hq_S → Option hq_S := Nat.rec (fun _ _ => none) (fun _ q => f_X0_layOut_L14_B n q) m
theorem f_X0_layOut_L14_Brun {xs : List Int32} {n d g : Nat} {a1 : Int32} {o2 : Option Value} {q14 : Int32 → hq_S → Option hq_S} {s : hq_S} {y : hq_S} (hd : 1 ≤ d) (e14 : ∀ (a1 : Int32) (o2 : Option Value) (s : hq_S), q14 a1 s = some y → hq_R (mm_O xs) d mc_X0_layOut 14 [some (.ref 152), some (.int a1), o2] [] s g none y) (h : f_X0_layOut_L14_B n q14 a1 s = some y) : hq_R (mm_O xs) d mc_X0_layOut 14 [some (.ref 152), some (.int a1), o2] [] s g none y := by
  unfold f_X0_layOut_L14_B at h
  refine hq_p 2 16 [some (.ref 152), some (.int a1), o2] [.ref 152, .int a1] (fun n h => rfl) ?_
  refine hq_gf (x := .int (hq_gi s 152 2)) rfl rfl rfl rfl rfl ?_
  by_cases c3 : a1 < (hq_gi s 152 2)
  · rw [if_pos c3] at h
    refine hq_icF rfl (hq_c_ge_F c3) ?_
    refine hq_p 2 24 [some (.ref 152), some (.int a1), o2] [.int (3 : Int32), .int a1] (fun n h => rfl) ?_
    by_cases c10 : a1 < (3 : Int32)
    · rw [if_pos c10] at h
      refine hq_icF rfl (hq_c_ge_F c10) ?_
      refine hq_p 1 28 [some (.ref 152), some (.int a1), o2] [.ref 152] (fun n h => rfl) ?_
      refine hq_gf (x := .int (hq_gi s 152 3)) rfl rfl rfl rfl rfl ?_
      refine hq_p 1 32 [some (.ref 152), some (.int a1), o2] [.ref 152, .int (hq_gi s 152 3)] (fun n h => rfl) ?_
      refine hq_gf (x := .int (hq_gi s 152 0)) rfl rfl rfl rfl rfl ?_
      refine hq_p 4 39 [some (.ref 152), some (.int a1), some (.int (((hq_gi s 152 3) * (hq_gi s 152 0)) - (1 : Int32)))] [] (fun n h => rfl) ?_
      exact f_X0_layOut_L39_run hd e14 h
    · rw [if_neg c10] at h
      refine hq_icT rfl (hq_c_ge_T c10) ?_
      exact f_X0_layOut_J94_run hd h
  · rw [if_neg c3] at h
    refine hq_icT rfl (hq_c_ge_T c3) ?_
    exact f_X0_layOut_J94_run hd h
theorem f_X0_layOut_L14_run {xs : List Int32} {n m d g : Nat} {a1 : Int32} {o2 : Option Value} {s : hq_S} {y : hq_S} (hd : 1 ≤ d) (h : f_X0_layOut_L14 n m a1 s = some y) : hq_R (mm_O xs) d mc_X0_layOut 14 [some (.ref 152), some (.int a1), o2] [] s g none y := by
  induction m generalizing a1 o2 s with
  | zero => cases h
  | succ m ih => exact f_X0_layOut_L14_Brun (n := n) hd (fun a1 o2 s h => ih h) h
def f_X0_layOut (n : Nat) (s : hq_S) : Option hq_S := (hq_pi s 152 3 0 (1 : Int32)).bind fun s1 => (hq_st s1 154 1000 (0 : Int32) (0 : Int32)).bind fun s2 => f_X0_layOut_L14 n n (0 : Int32) s2
theorem f_X0_layOut_run {xs : List Int32} {n d g : Nat} {s : hq_S} {y : hq_S} (hd : 1 ≤ d) (h : f_X0_layOut n s = some y) : hq_R (mm_O xs) d mc_X0_layOut 0 [some (.ref 152), none, none] [] s g none y := by
  unfold f_X0_layOut at h
  refine hq_p 2 2 [some (.ref 152), none, none] [.int (1 : Int32), .ref 152] (fun n h => rfl) ?_
  obtain ⟨s1, hs1, h⟩ := hq_bind h
  refine hq_pfi rfl rfl rfl rfl rfl hs1 ?_
  refine hq_p 1 6 [some (.ref 152), none, none] [.ref 152] (fun n h => rfl) ?_
  refine hq_gf (x := .ref 154) rfl rfl rfl rfl rfl ?_
  refine hq_p 2 11 [some (.ref 152), none, none] [.int (0 : Int32), .int (0 : Int32), .ref 154] (fun n h => rfl) ?_
  obtain ⟨s2, hs2, h⟩ := hq_bind h
  refine hq_iastore rfl rfl List.length_replicate hs2 ?_
  refine hq_p 2 14 [some (.ref 152), some (.int (0 : Int32)), none] [] (fun n h => rfl) ?_
  exact f_X0_layOut_L14_run hd h
def f_X0_lostOnTurn_L9_B (n : Nat) (q9 : Int32 → Int32 → Int32 → hq_S → Option (Int32 × hq_S)) (a1 : Int32) (a2 : Int32) (a3 : Int32) (s : hq_S) : Option (Int32 × hq_S) := if a3 < (hq_gi s 152 0) then (hq_ld s 153 10 a3).bind fun x3 => (hq_ld s 155 1000 a1).bind fun x4 => (if (x3 &&& (x4 ^^^ (-1 : Int32))) = 0 then some ((1 : Int32) <<< (a3 &&& 31)) else some (0 : Int32)).bind fun z5 => q9 a1 (a2 ||| z5) (a3 + (1 : Int32)) s else some (a2, s)
def f_X0_lostOnTurn_L9 (n : Nat) (m : Nat) : Int32 → Int32 → Int32 → hq_S → Option (Int32 × hq_S) := Nat.rec (fun _ _ _ _ => none) (fun _ q => f_X0_lostOnTurn_L9_B n q) m
theorem f_X0_lostOnTurn_L9_Brun {xs : List Int32} {n d g : Nat} {a1 : Int32} {a2 : Int32} {a3 : Int32} {q9 : Int32 → Int32 → Int32 → hq_S → Option (Int32 × hq_S)} {s : hq_S} {y : (Int32 × hq_S)} (hd : 0 ≤ d) (e9 : ∀ (a1 : Int32) (a2 : Int32) (a3 : Int32) (s : hq_S), q9 a1 a2 a3 s = some y → hq_R (mm_O xs) d mc_X0_lostOnTurn 9 [some (.ref 152), some (.int a1), some (.int a2), some (.int a3)] [] s g (some (.int y.1)) y.2) (h : f_X0_lostOnTurn_L9_B n q9 a1 a2 a3 s = some y) : hq_R (mm_O xs) d mc_X0_lostOnTurn 9 [some (.ref 152), some (.int a1), some (.int a2), some (.int a3)] [] s g (some (.int y.1)) y.2 := by
  unfold f_X0_lostOnTurn_L9_B at h
  refine hq_p 2 11 [some (.ref 152), some (.int a1), some (.int a2), some (.int a3)] [.ref 152, .int a3] (fun n h => rfl) ?_
  refine hq_gf (x := .int (hq_gi s 152 0)) rfl rfl rfl rfl rfl ?_
  by_cases c2 : a3 < (hq_gi s 152 0)
  · rw [if_pos c2] at h
    refine hq_icF rfl (hq_c_ge_F c2) ?_
    refine hq_p 2 19 [some (.ref 152), some (.int a1), some (.int a2), some (.int a3)] [.ref 152, .int a2] (fun n h => rfl) ?_
    refine hq_gf (x := .ref 153) rfl rfl rfl rfl rfl ?_
    refine hq_p 1 23 [some (.ref 152), some (.int a1), some (.int a2), some (.int a3)] [.int a3, .ref 153, .int a2] (fun n h => rfl) ?_
    obtain ⟨x3, hx3, h⟩ := hq_bind h
    refine hq_iaload rfl rfl List.length_replicate hx3 ?_
    refine hq_p 1 25 [some (.ref 152), some (.int a1), some (.int a2), some (.int a3)] [.ref 152, .int x3, .int a2] (fun n h => rfl) ?_
    refine hq_gf (x := .ref 155) rfl rfl rfl rfl rfl ?_
    refine hq_p 1 29 [some (.ref 152), some (.int a1), some (.int a2), some (.int a3)] [.int a1, .ref 155, .int x3, .int a2] (fun n h => rfl) ?_
    obtain ⟨x4, hx4, h⟩ := hq_bind h
    refine hq_iaload rfl rfl List.length_replicate hx4 ?_
    refine hq_icn (-1 : Int32) rfl (by decide) ?_
    refine hq_p 2 33 [some (.ref 152), some (.int a1), some (.int a2), some (.int a3)] [.int (x3 &&& (x4 ^^^ (-1 : Int32))), .int a2] (fun n h => rfl) ?_
    obtain ⟨z5, hz5, h⟩ := hq_bind h
    suffices hT : hq_R (mm_O xs) d mc_X0_lostOnTurn 43 [some (.ref 152), some (.int a1), some (.int a2), some (.int a3)] [.int z5, .int a2] s g (some (.int y.1)) y.2 from by
      clear h
      have h := hz5
      by_cases c6 : (x3 &&& (x4 ^^^ (-1 : Int32))) = 0
      · rw [if_pos c6] at h
        refine hq_izF rfl (hq_c_ne_F c6) ?_
        refine hq_p 4 43 [some (.ref 152), some (.int a1), some (.int a2), some (.int a3)] [.int ((1 : Int32) <<< (a3 &&& 31)), .int a2] (fun n h => rfl) ?_
        cases h
        exact hT
      · rw [if_neg c6] at h
        refine hq_izT rfl (hq_c_ne_T c6) ?_
        refine hq_p 1 43 [some (.ref 152), some (.int a1), some (.int a2), some (.int a3)] [.int (0 : Int32), .int a2] (fun n h => rfl) ?_
        cases h
        exact hT
    refine hq_p 4 9 [some (.ref 152), some (.int a1), some (.int (a2 ||| z5)), some (.int (a3 + (1 : Int32)))] [] (fun n h => rfl) ?_
    exact e9 a1 (a2 ||| z5) (a3 + (1 : Int32)) s h
  · rw [if_neg c2] at h
    refine hq_icT rfl (hq_c_ge_T c2) ?_
    refine hq_p 1 52 [some (.ref 152), some (.int a1), some (.int a2), some (.int a3)] [.int a2] (fun n h => rfl) ?_
    have h := Option.some.inj h
    subst h
    exact ⟨1, rfl⟩
theorem f_X0_lostOnTurn_L9_run {xs : List Int32} {n m d g : Nat} {a1 : Int32} {a2 : Int32} {a3 : Int32} {s : hq_S} {y : (Int32 × hq_S)} (hd : 0 ≤ d) (h : f_X0_lostOnTurn_L9 n m a1 a2 a3 s = some y) : hq_R (mm_O xs) d mc_X0_lostOnTurn 9 [some (.ref 152), some (.int a1), some (.int a2), some (.int a3)] [] s g (some (.int y.1)) y.2 := by
  induction m generalizing a1 a2 a3 s with
  | zero => cases h
  | succ m ih => exact f_X0_lostOnTurn_L9_Brun (n := n) hd (fun a1 a2 a3 s h => ih h) h
def f_X0_lostOnTurn (n : Nat) (a1 : Int32) (s : hq_S) : Option (Int32 × hq_S) := (hq_ld s 154 1000 a1).bind fun x1 => f_X0_lostOnTurn_L9 n n a1 x1 (0 : Int32) s
theorem f_X0_lostOnTurn_run {xs : List Int32} {n d g : Nat} {a1 : Int32} {s : hq_S} {y : (Int32 × hq_S)} (hd : 0 ≤ d) (h : f_X0_lostOnTurn n a1 s = some y) : hq_R (mm_O xs) d mc_X0_lostOnTurn 0 [some (.ref 152), some (.int a1), none, none] [] s g (some (.int y.1)) y.2 := by
  unfold f_X0_lostOnTurn at h
  refine hq_p 1 1 [some (.ref 152), some (.int a1), none, none] [.ref 152] (fun n h => rfl) ?_
  refine hq_gf (x := .ref 154) rfl rfl rfl rfl rfl ?_
  refine hq_p 1 5 [some (.ref 152), some (.int a1), none, none] [.int a1, .ref 154] (fun n h => rfl) ?_
  obtain ⟨x1, hx1, h⟩ := hq_bind h
  refine hq_iaload rfl rfl List.length_replicate hx1 ?_
  refine hq_p 3 9 [some (.ref 152), some (.int a1), some (.int x1), some (.int (0 : Int32))] [] (fun n h => rfl) ?_
  exact f_X0_lostOnTurn_L9_run hd h
def f_X0_spreadOneGuard_L39_B (n : Nat) (q16 : Int32 → Int32 → hq_S → Option hq_S) (q39 : Int32 → Int32 → Int32 → Int32 → Int32 → hq_S → Option hq_S) (a1 : Int32) (a2 : Int32) (a3 : Int32) (a4 : Int32) (a5 : Int32) (s : hq_S) : Option hq_S := if a5 < (hq_gi s 152 0) then (hq_ld s 153 10 a3).bind fun x9 => (if ((x9 >>> (a5 &&& 31)) &&& (1 : Int32)) = (1 : Int32) then (hq_ld s 156 1000 (a2 + ((a5 - a3) * a1))).bind fun x12 => some x12 else some (0 : Int32)).bind fun z10 => q39 a1 a2 a3 (a4 ||| z10) (a5 + (1 : Int32)) s else (hq_st s 157 1000 a2 a4).bind fun s8 => q16 a1 (a2 + (1 : Int32)) s8
def f_X0_spreadOneGuard_L39 (n : Nat) (q16 : Int32 → Int32 → hq_S → Option hq_S) (m : Nat) : Int32 → Int32 → Int32 → Int32 → Int32 → hq_S → Option hq_S := Nat.rec (fun _ _ _ _ _ _ => none) (fun _ q => f_X0_spreadOneGuard_L39_B n q16 q) m
theorem f_X0_spreadOneGuard_L39_Brun {xs : List Int32} {n d g : Nat} {a1 : Int32} {a2 : Int32} {a3 : Int32} {a4 : Int32} {a5 : Int32} {q16 : Int32 → Int32 → hq_S → Option hq_S} {q39 : Int32 → Int32 → Int32 → Int32 → Int32 → hq_S → Option hq_S} {s : hq_S} {y : hq_S} (hd : 1 ≤ d) (e16 : ∀ (a1 : Int32) (a2 : Int32) (o3 : Option Value) (o4 : Option Value) (o5 : Option Value) (s : hq_S), q16 a1 a2 s = some y → hq_R (mm_O xs) d mc_X0_spreadOneGuard 16 [some (.ref 152), some (.int a1), some (.int a2), o3, o4, o5] [] s g none y) (e39 : ∀ (a1 : Int32) (a2 : Int32) (a3 : Int32) (a4 : Int32) (a5 : Int32) (s : hq_S), q39 a1 a2 a3 a4 a5 s = some y → hq_R (mm_O xs) d mc_X0_spreadOneGuard 39 [some (.ref 152), some (.int a1), some (.int a2), some (.int a3), some (.int a4), some (.int a5)] [] s g none y) (h : f_X0_spreadOneGuard_L39_B n q16 q39 a1 a2 a3 a4 a5 s = some y) : hq_R (mm_O xs) d mc_X0_spreadOneGuard 39 [some (.ref 152), some (.int a1), some (.int a2), some (.int a3), some (.int a4), some (.int a5)] [] s g none y := by
  unfold f_X0_spreadOneGuard_L39_B at h
  refine hq_p 2 42 [some (.ref 152), some (.int a1), some (.int a2), some (.int a3), some (.int a4), some (.int a5)] [.ref 152, .int a5] (fun n h => rfl) ?_
  refine hq_gf (x := .int (hq_gi s 152 0)) rfl rfl rfl rfl rfl ?_
  by_cases c7 : a5 < (hq_gi s 152 0)
  · rw [if_pos c7] at h
    refine hq_icF rfl (hq_c_ge_F c7) ?_
    refine hq_p 2 51 [some (.ref 152), some (.int a1), some (.int a2), some (.int a3), some (.int a4), some (.int a5)] [.ref 152, .int a4] (fun n h => rfl) ?_
    refine hq_gf (x := .ref 153) rfl rfl rfl rfl rfl ?_
    refine hq_p 1 55 [some (.ref 152), some (.int a1), some (.int a2), some (.int a3), some (.int a4), some (.int a5)] [.int a3, .ref 153, .int a4] (fun n h => rfl) ?_
    obtain ⟨x9, hx9, h⟩ := hq_bind h
    refine hq_iaload rfl rfl List.length_replicate hx9 ?_
    refine hq_p 5 62 [some (.ref 152), some (.int a1), some (.int a2), some (.int a3), some (.int a4), some (.int a5)] [.int (1 : Int32), .int ((x9 >>> (a5 &&& 31)) &&& (1 : Int32)), .int a4] (fun n h => rfl) ?_
    obtain ⟨z10, hz10, h⟩ := hq_bind h
    suffices hT : hq_R (mm_O xs) d mc_X0_spreadOneGuard 82 [some (.ref 152), some (.int a1), some (.int a2), some (.int a3), some (.int a4), some (.int a5)] [.int z10, .int a4] s g none y from by
      clear h
      have h := hz10
      by_cases c11 : ((x9 >>> (a5 &&& 31)) &&& (1 : Int32)) = (1 : Int32)
      · rw [if_pos c11] at h
        refine hq_icF rfl (hq_c_ne_F c11) ?_
        refine hq_p 1 66 [some (.ref 152), some (.int a1), some (.int a2), some (.int a3), some (.int a4), some (.int a5)] [.ref 152, .int a4] (fun n h => rfl) ?_
        refine hq_gf (x := .ref 156) rfl rfl rfl rfl rfl ?_
        refine hq_p 7 77 [some (.ref 152), some (.int a1), some (.int a2), some (.int a3), some (.int a4), some (.int a5)] [.int (a2 + ((a5 - a3) * a1)), .ref 156, .int a4] (fun n h => rfl) ?_
        obtain ⟨x12, hx12, h⟩ := hq_bind h
        refine hq_iaload rfl rfl List.length_replicate hx12 ?_
        refine hq_p 1 82 [some (.ref 152), some (.int a1), some (.int a2), some (.int a3), some (.int a4), some (.int a5)] [.int x12, .int a4] (fun n h => rfl) ?_
        cases h
        exact hT
      · rw [if_neg c11] at h
        refine hq_icT rfl (hq_c_ne_T c11) ?_
        refine hq_p 1 82 [some (.ref 152), some (.int a1), some (.int a2), some (.int a3), some (.int a4), some (.int a5)] [.int (0 : Int32), .int a4] (fun n h => rfl) ?_
        cases h
        exact hT
    refine hq_p 4 39 [some (.ref 152), some (.int a1), some (.int a2), some (.int a3), some (.int (a4 ||| z10)), some (.int (a5 + (1 : Int32)))] [] (fun n h => rfl) ?_
    exact e39 a1 a2 a3 (a4 ||| z10) (a5 + (1 : Int32)) s h
  · rw [if_neg c7] at h
    refine hq_icT rfl (hq_c_ge_T c7) ?_
    refine hq_p 1 92 [some (.ref 152), some (.int a1), some (.int a2), some (.int a3), some (.int a4), some (.int a5)] [.ref 152] (fun n h => rfl) ?_
    refine hq_gf (x := .ref 157) rfl rfl rfl rfl rfl ?_
    refine hq_p 2 98 [some (.ref 152), some (.int a1), some (.int a2), some (.int a3), some (.int a4), some (.int a5)] [.int a4, .int a2, .ref 157] (fun n h => rfl) ?_
    obtain ⟨s8, hs8, h⟩ := hq_bind h
    refine hq_iastore rfl rfl List.length_replicate hs8 ?_
    refine hq_p 2 16 [some (.ref 152), some (.int a1), some (.int (a2 + (1 : Int32))), some (.int a3), some (.int a4), some (.int a5)] [] (fun n h => rfl) ?_
    exact e16 a1 (a2 + (1 : Int32)) _ _ _ s8 h
theorem f_X0_spreadOneGuard_L39_run {xs : List Int32} {n m d g : Nat} {a1 : Int32} {a2 : Int32} {a3 : Int32} {a4 : Int32} {a5 : Int32} {q16 : Int32 → Int32 → hq_S → Option hq_S} {s : hq_S} {y : hq_S} (hd : 1 ≤ d) (e16 : ∀ (a1 : Int32) (a2 : Int32) (o3 : Option Value) (o4 : Option Value) (o5 : Option Value) (s : hq_S), q16 a1 a2 s = some y → hq_R (mm_O xs) d mc_X0_spreadOneGuard 16 [some (.ref 152), some (.int a1), some (.int a2), o3, o4, o5] [] s g none y) (h : f_X0_spreadOneGuard_L39 n q16 m a1 a2 a3 a4 a5 s = some y) : hq_R (mm_O xs) d mc_X0_spreadOneGuard 39 [some (.ref 152), some (.int a1), some (.int a2), some (.int a3), some (.int a4), some (.int a5)] [] s g none y := by
  induction m generalizing a1 a2 a3 a4 a5 s with
  | zero => cases h
  | succ m ih => exact f_X0_spreadOneGuard_L39_Brun (n := n) hd e16 (fun a1 a2 a3 a4 a5 s h => ih h) h
def f_X0_spreadOneGuard_L16_B (n : Nat) (q16 : Int32 → Int32 → hq_S → Option hq_S) (a1 : Int32) (a2 : Int32) (s : hq_S) : Option hq_S := if a2 < (hq_gi s 152 3) then (hq_idiv a2 a1).bind fun x5 => (hq_irem x5 (hq_gi s 152 0)).bind fun x6 => f_X0_spreadOneGuard_L39 n q16 n a1 a2 x6 (0 : Int32) (0 : Int32) s else (hq_cp s 157 1000 156 1000 (0 : Int32) (0 : Int32) (hq_gi s 152 3)).bind fun s4 => some s4
def f_X0_spreadOneGuard_L16 (n : Nat) (m : Nat) : Int32 → Int32 → hq_S → Option hq_S := Nat.rec (fun _ _ _ => none) (fun _ q => f_X0_spreadOneGuard_L16_B n q) m
theorem f_X0_spreadOneGuard_L16_Brun {xs : List Int32} {n d g : Nat} {a1 : Int32} {a2 : Int32} {o3 : Option Value} {o4 : Option Value} {o5 : Option Value} {q16 : Int32 → Int32 → hq_S → Option hq_S} {s : hq_S} {y : hq_S} (hd : 1 ≤ d) (e16 : ∀ (a1 : Int32) (a2 : Int32) (o3 : Option Value) (o4 : Option Value) (o5 : Option Value) (s : hq_S), q16 a1 a2 s = some y → hq_R (mm_O xs) d mc_X0_spreadOneGuard 16 [some (.ref 152), some (.int a1), some (.int a2), o3, o4, o5] [] s g none y) (h : f_X0_spreadOneGuard_L16_B n q16 a1 a2 s = some y) : hq_R (mm_O xs) d mc_X0_spreadOneGuard 16 [some (.ref 152), some (.int a1), some (.int a2), o3, o4, o5] [] s g none y := by
  unfold f_X0_spreadOneGuard_L16_B at h
  refine hq_p 2 18 [some (.ref 152), some (.int a1), some (.int a2), o3, o4, o5] [.ref 152, .int a2] (fun n h => rfl) ?_
  refine hq_gf (x := .int (hq_gi s 152 3)) rfl rfl rfl rfl rfl ?_
  by_cases c3 : a2 < (hq_gi s 152 3)
  · rw [if_pos c3] at h
    refine hq_icF rfl (hq_c_ge_F c3) ?_
    refine hq_p 2 26 [some (.ref 152), some (.int a1), some (.int a2), o3, o4, o5] [.int a1, .int a2] (fun n h => rfl) ?_
    obtain ⟨x5, hx5, h⟩ := hq_bind h
    refine hq_idiv_ rfl hx5 ?_
    refine hq_p 1 28 [some (.ref 152), some (.int a1), some (.int a2), o3, o4, o5] [.ref 152, .int x5] (fun n h => rfl) ?_
    refine hq_gf (x := .int (hq_gi s 152 0)) rfl rfl rfl rfl rfl ?_
    obtain ⟨x6, hx6, h⟩ := hq_bind h
    refine hq_irem_ rfl hx6 ?_
    refine hq_p 5 39 [some (.ref 152), some (.int a1), some (.int a2), some (.int x6), some (.int (0 : Int32)), some (.int (0 : Int32))] [] (fun n h => rfl) ?_
    exact f_X0_spreadOneGuard_L39_run hd e16 h
  · rw [if_neg c3] at h
    refine hq_icT rfl (hq_c_ge_T c3) ?_
    refine hq_p 1 106 [some (.ref 152), some (.int a1), some (.int a2), o3, o4, o5] [.ref 152] (fun n h => rfl) ?_
    refine hq_gf (x := .ref 157) rfl rfl rfl rfl rfl ?_
    refine hq_p 2 111 [some (.ref 152), some (.int a1), some (.int a2), o3, o4, o5] [.ref 152, .int (0 : Int32), .ref 157] (fun n h => rfl) ?_
    refine hq_gf (x := .ref 156) rfl rfl rfl rfl rfl ?_
    refine hq_p 2 116 [some (.ref 152), some (.int a1), some (.int a2), o3, o4, o5] [.ref 152, .int (0 : Int32), .ref 156, .int (0 : Int32), .ref 157] (fun n h => rfl) ?_
    refine hq_gf (x := .int (hq_gi s 152 3)) rfl rfl rfl rfl rfl ?_
    obtain ⟨s4, hs4, h⟩ := hq_bind h
    refine hq_copy_ rfl rfl List.length_replicate rfl List.length_replicate hs4 rfl (Nat.le_trans (by decide) hd) ?_
    have h := Option.some.inj h
    subst h
    exact ⟨1, rfl⟩
theorem f_X0_spreadOneGuard_L16_run {xs : List Int32} {n m d g : Nat} {a1 : Int32} {a2 : Int32} {o3 : Option Value} {o4 : Option Value} {o5 : Option Value} {s : hq_S} {y : hq_S} (hd : 1 ≤ d) (h : f_X0_spreadOneGuard_L16 n m a1 a2 s = some y) : hq_R (mm_O xs) d mc_X0_spreadOneGuard 16 [some (.ref 152), some (.int a1), some (.int a2), o3, o4, o5] [] s g none y := by
  induction m generalizing a1 a2 o3 o4 o5 s with
  | zero => cases h
  | succ m ih => exact f_X0_spreadOneGuard_L16_Brun (n := n) hd (fun a1 a2 o3 o4 o5 s h => ih h) h
def f_X0_spreadOneGuard (n : Nat) (a1 : Int32) (s : hq_S) : Option hq_S := if a1 < (1 : Int32) then some s else if (hq_gi s 152 0) < (1 : Int32) then some s else f_X0_spreadOneGuard_L16 n n a1 (0 : Int32) s
theorem f_X0_spreadOneGuard_run {xs : List Int32} {n d g : Nat} {a1 : Int32} {s : hq_S} {y : hq_S} (hd : 1 ≤ d) (h : f_X0_spreadOneGuard n a1 s = some y) : hq_R (mm_O xs) d mc_X0_spreadOneGuard 0 [some (.ref 152), some (.int a1), none, none, none, none] [] s g none y := by
  unfold f_X0_spreadOneGuard at h
  refine hq_p 2 2 [some (.ref 152), some (.int a1), none, none, none, none] [.int (1 : Int32), .int a1] (fun n h => rfl) ?_
  by_cases c1 : a1 < (1 : Int32)
  · rw [if_pos c1] at h
    refine hq_icT rfl (hq_c_lt_T c1) ?_
    have h := Option.some.inj h
    subst h
    exact ⟨1, rfl⟩
  · rw [if_neg c1] at h
    refine hq_icF rfl (hq_c_lt_F c1) ?_
    refine hq_p 1 6 [some (.ref 152), some (.int a1), none, none, none, none] [.ref 152] (fun n h => rfl) ?_
    refine hq_gf (x := .int (hq_gi s 152 0)) rfl rfl rfl rfl rfl ?_
    refine hq_p 1 10 [some (.ref 152), some (.int a1), none, none, none, none] [.int (1 : Int32), .int (hq_gi s 152 0)] (fun n h => rfl) ?_
    by_cases c2 : (hq_gi s 152 0) < (1 : Int32)
    · rw [if_pos c2] at h
      refine hq_icF rfl (hq_c_ge_F c2) ?_
      have h := Option.some.inj h
      subst h
      exact ⟨1, rfl⟩
    · rw [if_neg c2] at h
      refine hq_icT rfl (hq_c_ge_T c2) ?_
      refine hq_p 2 16 [some (.ref 152), some (.int a1), some (.int (0 : Int32)), none, none, none] [] (fun n h => rfl) ?_
      exact f_X0_spreadOneGuard_L16_run hd h
def f_X0_solveRound_L62_B (n : Nat) (q62 : Int32 → Int32 → Int32 → Int32 → hq_S → Option (Int32 × hq_S)) (a1 : Int32) (a2 : Int32) (a3 : Int32) (a4 : Int32) (s : hq_S) : Option (Int32 × hq_S) := if a4 < (hq_gi s 152 3) then (hq_ld s 156 1000 a4).bind fun x4 => (hq_ld s 155 1000 a4).bind fun x5 => (if (x4 &&& (x5 ^^^ (-1 : Int32))) = 0 then some (a3, s) else (f_X0_noteLost n a4 (x4 &&& (x5 ^^^ (-1 : Int32))) a1 s).bind fun s8 => some ((1 : Int32), s8)).bind fun z6 => q62 a1 a2 z6.1 (a4 + (1 : Int32)) z6.2 else if mm_rfit (mm_ret mc_X0_solveRound) a3 = true then some (a3, s) else none
def f_X0_solveRound_L62 (n : Nat) (m : Nat) : Int32 → Int32 → Int32 → Int32 → hq_S → Option (Int32 × hq_S) := Nat.rec (fun _ _ _ _ _ => none) (fun _ q => f_X0_solveRound_L62_B n q) m
theorem f_X0_solveRound_L62_Brun {xs : List Int32} {n d g : Nat} {a1 : Int32} {a2 : Int32} {a3 : Int32} {a4 : Int32} {o5 : Option Value} {q62 : Int32 → Int32 → Int32 → Int32 → hq_S → Option (Int32 × hq_S)} {s : hq_S} {y : (Int32 × hq_S)} (hd : 2 ≤ d) (e62 : ∀ (a1 : Int32) (a2 : Int32) (a3 : Int32) (a4 : Int32) (o5 : Option Value) (s : hq_S), q62 a1 a2 a3 a4 s = some y → hq_R (mm_O xs) d mc_X0_solveRound 62 [some (.ref 152), some (.int a1), some (.int a2), some (.int a3), some (.int a4), o5] [] s g (some (.int y.1)) y.2) (h : f_X0_solveRound_L62_B n q62 a1 a2 a3 a4 s = some y) : hq_R (mm_O xs) d mc_X0_solveRound 62 [some (.ref 152), some (.int a1), some (.int a2), some (.int a3), some (.int a4), o5] [] s g (some (.int y.1)) y.2 := by
  unfold f_X0_solveRound_L62_B at h
  refine hq_p 2 65 [some (.ref 152), some (.int a1), some (.int a2), some (.int a3), some (.int a4), o5] [.ref 152, .int a4] (fun n h => rfl) ?_
  refine hq_gf (x := .int (hq_gi s 152 3)) rfl rfl rfl rfl rfl ?_
  by_cases c3 : a4 < (hq_gi s 152 3)
  · rw [if_pos c3] at h
    refine hq_icF rfl (hq_c_ge_F c3) ?_
    refine hq_p 1 72 [some (.ref 152), some (.int a1), some (.int a2), some (.int a3), some (.int a4), o5] [.ref 152] (fun n h => rfl) ?_
    refine hq_gf (x := .ref 156) rfl rfl rfl rfl rfl ?_
    refine hq_p 1 77 [some (.ref 152), some (.int a1), some (.int a2), some (.int a3), some (.int a4), o5] [.int a4, .ref 156] (fun n h => rfl) ?_
    obtain ⟨x4, hx4, h⟩ := hq_bind h
    refine hq_iaload rfl rfl List.length_replicate hx4 ?_
    refine hq_p 1 79 [some (.ref 152), some (.int a1), some (.int a2), some (.int a3), some (.int a4), o5] [.ref 152, .int x4] (fun n h => rfl) ?_
    refine hq_gf (x := .ref 155) rfl rfl rfl rfl rfl ?_
    refine hq_p 1 84 [some (.ref 152), some (.int a1), some (.int a2), some (.int a3), some (.int a4), o5] [.int a4, .ref 155, .int x4] (fun n h => rfl) ?_
    obtain ⟨x5, hx5, h⟩ := hq_bind h
    refine hq_iaload rfl rfl List.length_replicate hx5 ?_
    refine hq_icn (-1 : Int32) rfl (by decide) ?_
    refine hq_p 4 92 [some (.ref 152), some (.int a1), some (.int a2), some (.int a3), some (.int a4), some (.int (x4 &&& (x5 ^^^ (-1 : Int32))))] [.int (x4 &&& (x5 ^^^ (-1 : Int32)))] (fun n h => rfl) ?_
    obtain ⟨z6, hz6, h⟩ := hq_bind h
    suffices hT : hq_R (mm_O xs) d mc_X0_solveRound 106 [some (.ref 152), some (.int a1), some (.int a2), some (.int z6.1), some (.int a4), some (.int (x4 &&& (x5 ^^^ (-1 : Int32))))] [] z6.2 g (some (.int y.1)) y.2 from by
      clear h
      have h := hz6
      by_cases c7 : (x4 &&& (x5 ^^^ (-1 : Int32))) = 0
      · rw [if_pos c7] at h
        refine hq_izT rfl (hq_c_eq_T c7) ?_
        cases h
        exact hT
      · rw [if_neg c7] at h
        refine hq_izF rfl (hq_c_eq_F c7) ?_
        refine hq_p 6 103 [some (.ref 152), some (.int a1), some (.int a2), some (.int (1 : Int32)), some (.int a4), some (.int (x4 &&& (x5 ^^^ (-1 : Int32))))] [.int a1, .int (x4 &&& (x5 ^^^ (-1 : Int32))), .int a4, .ref 152] (fun n h => rfl) ?_
        obtain ⟨s8, hs8, h⟩ := hq_bind h
        refine hq_inv rfl rfl (Nat.le_trans (by decide) hd) rfl rfl (hq_rcv rfl rfl) (f_X0_noteLost_run (Nat.le_sub_of_add_le (Nat.le_trans (by decide) hd)) hs8) rfl ?_
        cases h
        exact hT
    refine hq_p 2 62 [some (.ref 152), some (.int a1), some (.int a2), some (.int z6.1), some (.int (a4 + (1 : Int32))), some (.int (x4 &&& (x5 ^^^ (-1 : Int32))))] [] (fun n h => rfl) ?_
    exact e62 a1 a2 z6.1 (a4 + (1 : Int32)) _ z6.2 h
  · rw [if_neg c3] at h
    refine hq_icT rfl (hq_c_ge_T c3) ?_
    refine hq_p 1 113 [some (.ref 152), some (.int a1), some (.int a2), some (.int a3), some (.int a4), o5] [.int a3] (fun n h => rfl) ?_
    have hr : mm_rfit (mm_ret mc_X0_solveRound) a3 = true := hq_ifT h
    rw [if_pos hr] at h
    have h := Option.some.inj h
    subst h
    exact hq_iret rfl hr
theorem f_X0_solveRound_L62_run {xs : List Int32} {n m d g : Nat} {a1 : Int32} {a2 : Int32} {a3 : Int32} {a4 : Int32} {o5 : Option Value} {s : hq_S} {y : (Int32 × hq_S)} (hd : 2 ≤ d) (h : f_X0_solveRound_L62 n m a1 a2 a3 a4 s = some y) : hq_R (mm_O xs) d mc_X0_solveRound 62 [some (.ref 152), some (.int a1), some (.int a2), some (.int a3), some (.int a4), o5] [] s g (some (.int y.1)) y.2 := by
  induction m generalizing a1 a2 a3 a4 o5 s with
  | zero => cases h
  | succ m ih => exact f_X0_solveRound_L62_Brun (n := n) hd (fun a1 a2 a3 a4 o5 s h => ih h) h
def f_X0_solveRound_L31_B (n : Nat) (q31 : Int32 → Int32 → Int32 → hq_S → Option (Int32 × hq_S)) (a1 : Int32) (a2 : Int32) (a3 : Int32) (s : hq_S) : Option (Int32 × hq_S) := if a3 < (hq_gi s 152 2) then (f_X0_spreadOneGuard n a2 s).bind fun s9 => q31 a1 (a2 * (hq_gi s9 152 0)) (a3 + (1 : Int32)) s9 else f_X0_solveRound_L62 n n a1 a2 (0 : Int32) (0 : Int32) s
def f_X0_solveRound_L31 (n : Nat) (m : Nat) : Int32 → Int32 → Int32 → hq_S → Option (Int32 × hq_S) := Nat.rec (fun _ _ _ _ => none) (fun _ q => f_X0_solveRound_L31_B n q) m
theorem f_X0_solveRound_L31_Brun {xs : List Int32} {n d g : Nat} {a1 : Int32} {a2 : Int32} {a3 : Int32} {q31 : Int32 → Int32 → Int32 → hq_S → Option (Int32 × hq_S)} {s : hq_S} {y : (Int32 × hq_S)} (hd : 2 ≤ d) (e31 : ∀ (a1 : Int32) (a2 : Int32) (a3 : Int32) (s : hq_S), q31 a1 a2 a3 s = some y → hq_R (mm_O xs) d mc_X0_solveRound 31 [some (.ref 152), some (.int a1), some (.int a2), some (.int a3), none, none] [] s g (some (.int y.1)) y.2) (h : f_X0_solveRound_L31_B n q31 a1 a2 a3 s = some y) : hq_R (mm_O xs) d mc_X0_solveRound 31 [some (.ref 152), some (.int a1), some (.int a2), some (.int a3), none, none] [] s g (some (.int y.1)) y.2 := by
  unfold f_X0_solveRound_L31_B at h
  refine hq_p 2 33 [some (.ref 152), some (.int a1), some (.int a2), some (.int a3), none, none] [.ref 152, .int a3] (fun n h => rfl) ?_
  refine hq_gf (x := .int (hq_gi s 152 2)) rfl rfl rfl rfl rfl ?_
  by_cases c2 : a3 < (hq_gi s 152 2)
  · rw [if_pos c2] at h
    refine hq_icF rfl (hq_c_ge_F c2) ?_
    refine hq_p 2 41 [some (.ref 152), some (.int a1), some (.int a2), some (.int a3), none, none] [.int a2, .ref 152] (fun n h => rfl) ?_
    obtain ⟨s9, hs9, h⟩ := hq_bind h
    refine hq_inv rfl rfl (Nat.le_trans (by decide) hd) rfl rfl (hq_rcv rfl rfl) (f_X0_spreadOneGuard_run (Nat.le_sub_of_add_le (Nat.le_trans (by decide) hd)) hs9) rfl ?_
    refine hq_p 2 46 [some (.ref 152), some (.int a1), some (.int a2), some (.int a3), none, none] [.ref 152, .int a2] (fun n h => rfl) ?_
    refine hq_gf (x := .int (hq_gi s9 152 0)) rfl rfl rfl rfl rfl ?_
    refine hq_p 4 31 [some (.ref 152), some (.int a1), some (.int (a2 * (hq_gi s9 152 0))), some (.int (a3 + (1 : Int32))), none, none] [] (fun n h => rfl) ?_
    exact e31 a1 (a2 * (hq_gi s9 152 0)) (a3 + (1 : Int32)) s9 h
  · rw [if_neg c2] at h
    refine hq_icT rfl (hq_c_ge_T c2) ?_
    refine hq_p 4 62 [some (.ref 152), some (.int a1), some (.int a2), some (.int (0 : Int32)), some (.int (0 : Int32)), none] [] (fun n h => rfl) ?_
    exact f_X0_solveRound_L62_run hd h
theorem f_X0_solveRound_L31_run {xs : List Int32} {n m d g : Nat} {a1 : Int32} {a2 : Int32} {a3 : Int32} {s : hq_S} {y : (Int32 × hq_S)} (hd : 2 ≤ d) (h : f_X0_solveRound_L31 n m a1 a2 a3 s = some y) : hq_R (mm_O xs) d mc_X0_solveRound 31 [some (.ref 152), some (.int a1), some (.int a2), some (.int a3), none, none] [] s g (some (.int y.1)) y.2 := by
  induction m generalizing a1 a2 a3 s with
  | zero => cases h
  | succ m ih => exact f_X0_solveRound_L31_Brun (n := n) hd (fun a1 a2 a3 s h => ih h) h
def f_X0_solveRound_L2_B (n : Nat) (q2 : Int32 → Int32 → hq_S → Option (Int32 × hq_S)) (a1 : Int32) (a2 : Int32) (s : hq_S) : Option (Int32 × hq_S) := if a2 < (hq_gi s 152 3) then (f_X0_lostOnTurn n a2 s).bind fun y10 => (hq_st y10.2 156 1000 a2 y10.1).bind fun s11 => q2 a1 (a2 + (1 : Int32)) s11 else f_X0_solveRound_L31 n n a1 (1 : Int32) (0 : Int32) s
def f_X0_solveRound_L2 (n : Nat) (m : Nat) : Int32 → Int32 → hq_S → Option (Int32 × hq_S) := Nat.rec (fun _ _ _ => none) (fun _ q => f_X0_solveRound_L2_B n q) m
theorem f_X0_solveRound_L2_Brun {xs : List Int32} {n d g : Nat} {a1 : Int32} {a2 : Int32} {q2 : Int32 → Int32 → hq_S → Option (Int32 × hq_S)} {s : hq_S} {y : (Int32 × hq_S)} (hd : 2 ≤ d) (e2 : ∀ (a1 : Int32) (a2 : Int32) (s : hq_S), q2 a1 a2 s = some y → hq_R (mm_O xs) d mc_X0_solveRound 2 [some (.ref 152), some (.int a1), some (.int a2), none, none, none] [] s g (some (.int y.1)) y.2) (h : f_X0_solveRound_L2_B n q2 a1 a2 s = some y) : hq_R (mm_O xs) d mc_X0_solveRound 2 [some (.ref 152), some (.int a1), some (.int a2), none, none, none] [] s g (some (.int y.1)) y.2 := by
  unfold f_X0_solveRound_L2_B at h
  refine hq_p 2 4 [some (.ref 152), some (.int a1), some (.int a2), none, none, none] [.ref 152, .int a2] (fun n h => rfl) ?_
  refine hq_gf (x := .int (hq_gi s 152 3)) rfl rfl rfl rfl rfl ?_
  by_cases c1 : a2 < (hq_gi s 152 3)
  · rw [if_pos c1] at h
    refine hq_icF rfl (hq_c_ge_F c1) ?_
    refine hq_p 1 11 [some (.ref 152), some (.int a1), some (.int a2), none, none, none] [.ref 152] (fun n h => rfl) ?_
    refine hq_gf (x := .ref 156) rfl rfl rfl rfl rfl ?_
    refine hq_p 3 17 [some (.ref 152), some (.int a1), some (.int a2), none, none, none] [.int a2, .ref 152, .int a2, .ref 156] (fun n h => rfl) ?_
    obtain ⟨y10, hy10, h⟩ := hq_bind h
    refine hq_inv rfl rfl (Nat.le_trans (by decide) hd) rfl rfl (hq_rcv rfl rfl) (f_X0_lostOnTurn_run (Nat.le_sub_of_add_le (Nat.le_trans (by decide) hd)) hy10) rfl ?_
    obtain ⟨s11, hs11, h⟩ := hq_bind h
    refine hq_iastore rfl rfl List.length_replicate hs11 ?_
    refine hq_p 2 2 [some (.ref 152), some (.int a1), some (.int (a2 + (1 : Int32))), none, none, none] [] (fun n h => rfl) ?_
    exact e2 a1 (a2 + (1 : Int32)) s11 h
  · rw [if_neg c1] at h
    refine hq_icT rfl (hq_c_ge_T c1) ?_
    refine hq_p 4 31 [some (.ref 152), some (.int a1), some (.int (1 : Int32)), some (.int (0 : Int32)), none, none] [] (fun n h => rfl) ?_
    exact f_X0_solveRound_L31_run hd h
theorem f_X0_solveRound_L2_run {xs : List Int32} {n m d g : Nat} {a1 : Int32} {a2 : Int32} {s : hq_S} {y : (Int32 × hq_S)} (hd : 2 ≤ d) (h : f_X0_solveRound_L2 n m a1 a2 s = some y) : hq_R (mm_O xs) d mc_X0_solveRound 2 [some (.ref 152), some (.int a1), some (.int a2), none, none, none] [] s g (some (.int y.1)) y.2 := by
  induction m generalizing a1 a2 s with
  | zero => cases h
  | succ m ih => exact f_X0_solveRound_L2_Brun (n := n) hd (fun a1 a2 s h => ih h) h
def f_X0_solveRound (n : Nat) (a1 : Int32) (s : hq_S) : Option (Int32 × hq_S) := f_X0_solveRound_L2 n n a1 (0 : Int32) s
theorem f_X0_solveRound_run {xs : List Int32} {n d g : Nat} {a1 : Int32} {s : hq_S} {y : (Int32 × hq_S)} (hd : 2 ≤ d) (h : f_X0_solveRound n a1 s = some y) : hq_R (mm_O xs) d mc_X0_solveRound 0 [some (.ref 152), some (.int a1), none, none, none, none] [] s g (some (.int y.1)) y.2 := by
  unfold f_X0_solveRound at h
  refine hq_p 2 2 [some (.ref 152), some (.int a1), some (.int (0 : Int32)), none, none, none] [] (fun n h => rfl) ?_
  exact f_X0_solveRound_L2_run hd h
def f_X0_solve_L36_B (n : Nat) (q36 : Nat → Int32 → Int32 → Int32 → hq_S → Option hq_S) (k1 : Nat) (a2 : Int32) (a3 : Int32) (a4 : Int32) (s : hq_S) : Option hq_S := if (10000 : Int32) < a4 then some s else if a3 = 0 then some s else (f_X0_solveRound n a4 s).bind fun y8 => q36 k1 a2 y8.1 (a4 + (1 : Int32)) y8.2
def f_X0_solve_L36 (n : Nat) (m : Nat) : Nat → Int32 → Int32 → Int32 → hq_S → Option hq_S := Nat.rec (fun _ _ _ _ _ => none) (fun _ q => f_X0_solve_L36_B n q) m
theorem f_X0_solve_L36_Brun {xs : List Int32} {n d g : Nat} {k1 : Nat} {a2 : Int32} {a3 : Int32} {a4 : Int32} {q36 : Nat → Int32 → Int32 → Int32 → hq_S → Option hq_S} {s : hq_S} {y : hq_S} (hd : 3 ≤ d) (e36 : ∀ (k1 : Nat) (a2 : Int32) (a3 : Int32) (a4 : Int32) (s : hq_S) (m1_ : hq_isS k1), q36 k1 a2 a3 a4 s = some y → hq_R (mm_O xs) d mc_X0_solve 36 [some (.ref 152), some (.ref k1), some (.int a2), some (.int a3), some (.int a4)] [] s g none y) (m1_ : hq_isS k1) (h : f_X0_solve_L36_B n q36 k1 a2 a3 a4 s = some y) : hq_R (mm_O xs) d mc_X0_solve 36 [some (.ref 152), some (.ref k1), some (.int a2), some (.int a3), some (.int a4)] [] s g none y := by
  unfold f_X0_solve_L36_B at h
  refine hq_p 1 38 [some (.ref 152), some (.ref k1), some (.int a2), some (.int a3), some (.int a4)] [.int a4] (fun n h => rfl) ?_
  refine hq_sip (10000 : Int32) rfl (by decide) ?_
  by_cases c6 : (10000 : Int32) < a4
  · rw [if_pos c6] at h
    refine hq_icT rfl (hq_c_gt_T c6) ?_
    have h := Option.some.inj h
    subst h
    exact ⟨1, rfl⟩
  · rw [if_neg c6] at h
    refine hq_icF rfl (hq_c_gt_F c6) ?_
    refine hq_p 1 45 [some (.ref 152), some (.ref k1), some (.int a2), some (.int a3), some (.int a4)] [.int a3] (fun n h => rfl) ?_
    by_cases c7 : a3 = 0
    · rw [if_pos c7] at h
      refine hq_izT rfl (hq_c_eq_T c7) ?_
      have h := Option.some.inj h
      subst h
      exact ⟨1, rfl⟩
    · rw [if_neg c7] at h
      refine hq_izF rfl (hq_c_eq_F c7) ?_
      refine hq_p 2 51 [some (.ref 152), some (.ref k1), some (.int a2), some (.int a3), some (.int a4)] [.int a4, .ref 152] (fun n h => rfl) ?_
      obtain ⟨y8, hy8, h⟩ := hq_bind h
      refine hq_inv rfl rfl (Nat.le_trans (by decide) hd) rfl rfl (hq_rcv rfl rfl) (f_X0_solveRound_run (Nat.le_sub_of_add_le (Nat.le_trans (by decide) hd)) hy8) rfl ?_
      refine hq_p 3 36 [some (.ref 152), some (.ref k1), some (.int a2), some (.int y8.1), some (.int (a4 + (1 : Int32)))] [] (fun n h => rfl) ?_
      exact e36 k1 a2 y8.1 (a4 + (1 : Int32)) y8.2 m1_ h
theorem f_X0_solve_L36_run {xs : List Int32} {n m d g : Nat} {k1 : Nat} {a2 : Int32} {a3 : Int32} {a4 : Int32} {s : hq_S} {y : hq_S} (hd : 3 ≤ d) (m1_ : hq_isS k1) (h : f_X0_solve_L36 n m k1 a2 a3 a4 s = some y) : hq_R (mm_O xs) d mc_X0_solve 36 [some (.ref 152), some (.ref k1), some (.int a2), some (.int a3), some (.int a4)] [] s g none y := by
  induction m generalizing k1 a2 a3 a4 s with
  | zero => cases h
  | succ m ih => exact f_X0_solve_L36_Brun (n := n) hd (fun k1 a2 a3 a4 s m1_ h => ih m1_ h) m1_ h
def f_X0_solve (n : Nat) (k1 : Nat) (a2 : Int32) (s : hq_S) : Option hq_S := (f_X0_fitTo n k1 s).bind fun s1 => if (hq_gi s1 152 2) = a2 then some s1 else if (hq_gi s1 152 0) < (1 : Int32) then some s1 else (hq_pi s1 152 2 0 a2).bind fun s4 => (f_X0_layOut n s4).bind fun s5 => f_X0_solve_L36 n n k1 a2 (1 : Int32) (1 : Int32) s5
theorem f_X0_solve_run {xs : List Int32} {n d g : Nat} {k1 : Nat} {a2 : Int32} {s : hq_S} {y : hq_S} (hd : 3 ≤ d) (m1_ : hq_isS k1) (h : f_X0_solve n k1 a2 s = some y) : hq_R (mm_O xs) d mc_X0_solve 0 [some (.ref 152), some (.ref k1), some (.int a2), none, none] [] s g none y := by
  unfold f_X0_solve at h
  refine hq_p 2 2 [some (.ref 152), some (.ref k1), some (.int a2), none, none] [.ref k1, .ref 152] (fun n h => rfl) ?_
  obtain ⟨s1, hs1, h⟩ := hq_bind h
  refine hq_inv rfl rfl (Nat.le_trans (by decide) hd) rfl rfl (hq_rcv rfl rfl) (f_X0_fitTo_run (Nat.le_sub_of_add_le (Nat.le_trans (by decide) hd)) m1_ hs1) rfl ?_
  refine hq_p 1 6 [some (.ref 152), some (.ref k1), some (.int a2), none, none] [.ref 152] (fun n h => rfl) ?_
  refine hq_gf (x := .int (hq_gi s1 152 2)) rfl rfl rfl rfl rfl ?_
  refine hq_p 1 10 [some (.ref 152), some (.ref k1), some (.int a2), none, none] [.int a2, .int (hq_gi s1 152 2)] (fun n h => rfl) ?_
  by_cases c2 : (hq_gi s1 152 2) = a2
  · rw [if_pos c2] at h
    refine hq_icT rfl (hq_c_eq_T c2) ?_
    have h := Option.some.inj h
    subst h
    exact ⟨1, rfl⟩
  · rw [if_neg c2] at h
    refine hq_icF rfl (hq_c_eq_F c2) ?_
    refine hq_p 1 14 [some (.ref 152), some (.ref k1), some (.int a2), none, none] [.ref 152] (fun n h => rfl) ?_
    refine hq_gf (x := .int (hq_gi s1 152 0)) rfl rfl rfl rfl rfl ?_
    refine hq_p 1 18 [some (.ref 152), some (.ref k1), some (.int a2), none, none] [.int (1 : Int32), .int (hq_gi s1 152 0)] (fun n h => rfl) ?_
    by_cases c3 : (hq_gi s1 152 0) < (1 : Int32)
    · rw [if_pos c3] at h
      refine hq_icF rfl (hq_c_ge_F c3) ?_
      have h := Option.some.inj h
      subst h
      exact ⟨1, rfl⟩
    · rw [if_neg c3] at h
      refine hq_icT rfl (hq_c_ge_T c3) ?_
      refine hq_p 2 24 [some (.ref 152), some (.ref k1), some (.int a2), none, none] [.int a2, .ref 152] (fun n h => rfl) ?_
      obtain ⟨s4, hs4, h⟩ := hq_bind h
      refine hq_pfi rfl rfl rfl rfl rfl hs4 ?_
      refine hq_p 1 28 [some (.ref 152), some (.ref k1), some (.int a2), none, none] [.ref 152] (fun n h => rfl) ?_
      obtain ⟨s5, hs5, h⟩ := hq_bind h
      refine hq_inv rfl rfl (Nat.le_trans (by decide) hd) rfl rfl (hq_rcv rfl rfl) (f_X0_layOut_run (Nat.le_sub_of_add_le (Nat.le_trans (by decide) hd)) hs5) rfl ?_
      refine hq_p 4 36 [some (.ref 152), some (.ref k1), some (.int a2), some (.int (1 : Int32)), some (.int (1 : Int32))] [] (fun n h => rfl) ?_
      exact f_X0_solve_L36_run hd m1_ h
def f_X0_roundsFrom (n : Nat) (a1 : Int32) (a2 : Int32) (s : hq_S) : Option (Int32 × hq_S) := (hq_ld s 158 10000 ((a1 * (hq_gi s 152 0)) + a2)).bind fun x1 => some (x1, s)
theorem f_X0_roundsFrom_run {xs : List Int32} {n d g : Nat} {a1 : Int32} {a2 : Int32} {s : hq_S} {y : (Int32 × hq_S)} (hd : 0 ≤ d) (h : f_X0_roundsFrom n a1 a2 s = some y) : hq_R (mm_O xs) d mc_X0_roundsFrom 0 [some (.ref 152), some (.int a1), some (.int a2)] [] s g (some (.int y.1)) y.2 := by
  unfold f_X0_roundsFrom at h
  refine hq_p 1 1 [some (.ref 152), some (.int a1), some (.int a2)] [.ref 152] (fun n h => rfl) ?_
  refine hq_gf (x := .ref 158) rfl rfl rfl rfl rfl ?_
  refine hq_p 2 6 [some (.ref 152), some (.int a1), some (.int a2)] [.ref 152, .int a1, .ref 158] (fun n h => rfl) ?_
  refine hq_gf (x := .int (hq_gi s 152 0)) rfl rfl rfl rfl rfl ?_
  refine hq_p 3 12 [some (.ref 152), some (.int a1), some (.int a2)] [.int ((a1 * (hq_gi s 152 0)) + a2), .ref 158] (fun n h => rfl) ?_
  obtain ⟨x1, hx1, h⟩ := hq_bind h
  refine hq_iaload rfl rfl List.length_replicate hx1 ?_
  have h := Option.some.inj h
  subst h
  exact ⟨1, rfl⟩
def f_X0_cornerIn_L15_B (n : Nat) (q15 : Int32 → Int32 → Int32 → Int32 → hq_S → Option (Int32 × hq_S)) (a1 : Int32) (a2 : Int32) (a3 : Int32) (a4 : Int32) (s : hq_S) : Option (Int32 × hq_S) := if a4 < a2 then (hq_idiv a3 (hq_gi s 152 0)).bind fun x4 => q15 a1 a2 x4 (a4 + (1 : Int32)) s else (hq_irem a3 (hq_gi s 152 0)).bind fun x3 => some (x3, s)
def f_X0_cornerIn_L15 (n : Nat) (m : Nat) : Int32 → Int32 → Int32 → Int32 → hq_S → Option (Int32 × hq_S) := Nat.rec (fun _ _ _ _ _ => none) (fun _ q => f_X0_cornerIn_L15_B n q) m
theorem f_X0_cornerIn_L15_Brun {xs : List Int32} {n d g : Nat} {a1 : Int32} {a2 : Int32} {a3 : Int32} {a4 : Int32} {q15 : Int32 → Int32 → Int32 → Int32 → hq_S → Option (Int32 × hq_S)} {s : hq_S} {y : (Int32 × hq_S)} (hd : 0 ≤ d) (e15 : ∀ (a1 : Int32) (a2 : Int32) (a3 : Int32) (a4 : Int32) (s : hq_S), q15 a1 a2 a3 a4 s = some y → hq_R (mm_O xs) d mc_X0_cornerIn 15 [some (.ref 152), some (.int a1), some (.int a2), some (.int a3), some (.int a4)] [] s g (some (.int y.1)) y.2) (h : f_X0_cornerIn_L15_B n q15 a1 a2 a3 a4 s = some y) : hq_R (mm_O xs) d mc_X0_cornerIn 15 [some (.ref 152), some (.int a1), some (.int a2), some (.int a3), some (.int a4)] [] s g (some (.int y.1)) y.2 := by
  unfold f_X0_cornerIn_L15_B at h
  refine hq_p 2 18 [some (.ref 152), some (.int a1), some (.int a2), some (.int a3), some (.int a4)] [.int a2, .int a4] (fun n h => rfl) ?_
  by_cases c2 : a4 < a2
  · rw [if_pos c2] at h
    refine hq_icF rfl (hq_c_ge_F c2) ?_
    refine hq_p 2 23 [some (.ref 152), some (.int a1), some (.int a2), some (.int a3), some (.int a4)] [.ref 152, .int a3] (fun n h => rfl) ?_
    refine hq_gf (x := .int (hq_gi s 152 0)) rfl rfl rfl rfl rfl ?_
    obtain ⟨x4, hx4, h⟩ := hq_bind h
    refine hq_idiv_ rfl hx4 ?_
    refine hq_p 3 15 [some (.ref 152), some (.int a1), some (.int a2), some (.int x4), some (.int (a4 + (1 : Int32)))] [] (fun n h => rfl) ?_
    exact e15 a1 a2 x4 (a4 + (1 : Int32)) s h
  · rw [if_neg c2] at h
    refine hq_icT rfl (hq_c_ge_T c2) ?_
    refine hq_p 2 36 [some (.ref 152), some (.int a1), some (.int a2), some (.int a3), some (.int a4)] [.ref 152, .int a3] (fun n h => rfl) ?_
    refine hq_gf (x := .int (hq_gi s 152 0)) rfl rfl rfl rfl rfl ?_
    obtain ⟨x3, hx3, h⟩ := hq_bind h
    refine hq_irem_ rfl hx3 ?_
    have h := Option.some.inj h
    subst h
    exact ⟨1, rfl⟩
theorem f_X0_cornerIn_L15_run {xs : List Int32} {n m d g : Nat} {a1 : Int32} {a2 : Int32} {a3 : Int32} {a4 : Int32} {s : hq_S} {y : (Int32 × hq_S)} (hd : 0 ≤ d) (h : f_X0_cornerIn_L15 n m a1 a2 a3 a4 s = some y) : hq_R (mm_O xs) d mc_X0_cornerIn 15 [some (.ref 152), some (.int a1), some (.int a2), some (.int a3), some (.int a4)] [] s g (some (.int y.1)) y.2 := by
  induction m generalizing a1 a2 a3 a4 s with
  | zero => cases h
  | succ m ih => exact f_X0_cornerIn_L15_Brun (n := n) hd (fun a1 a2 a3 a4 s h => ih h) h
def f_X0_cornerIn (n : Nat) (a1 : Int32) (a2 : Int32) (s : hq_S) : Option (Int32 × hq_S) := if (hq_gi s 152 0) < (1 : Int32) then some ((-1 : Int32), s) else f_X0_cornerIn_L15 n n a1 a2 a1 (0 : Int32) s
theorem f_X0_cornerIn_run {xs : List Int32} {n d g : Nat} {a1 : Int32} {a2 : Int32} {s : hq_S} {y : (Int32 × hq_S)} (hd : 0 ≤ d) (h : f_X0_cornerIn n a1 a2 s = some y) : hq_R (mm_O xs) d mc_X0_cornerIn 0 [some (.ref 152), some (.int a1), some (.int a2), none, none] [] s g (some (.int y.1)) y.2 := by
  unfold f_X0_cornerIn at h
  refine hq_p 1 1 [some (.ref 152), some (.int a1), some (.int a2), none, none] [.ref 152] (fun n h => rfl) ?_
  refine hq_gf (x := .int (hq_gi s 152 0)) rfl rfl rfl rfl rfl ?_
  refine hq_p 1 5 [some (.ref 152), some (.int a1), some (.int a2), none, none] [.int (1 : Int32), .int (hq_gi s 152 0)] (fun n h => rfl) ?_
  by_cases c1 : (hq_gi s 152 0) < (1 : Int32)
  · rw [if_pos c1] at h
    refine hq_icF rfl (hq_c_ge_F c1) ?_
    refine hq_icn (-1 : Int32) rfl (by decide) ?_
    have h := Option.some.inj h
    subst h
    exact ⟨1, rfl⟩
  · rw [if_neg c1] at h
    refine hq_icT rfl (hq_c_ge_T c1) ?_
    refine hq_p 4 15 [some (.ref 152), some (.int a1), some (.int a2), some (.int a1), some (.int (0 : Int32))] [] (fun n h => rfl) ?_
    exact f_X0_cornerIn_L15_run hd h
def f_X0_isTurn_L2_B (n : Nat) (q2 : Int32 → Int32 → Int32 → hq_S → Option (Int32 × hq_S)) (a1 : Int32) (a2 : Int32) (a3 : Int32) (s : hq_S) : Option (Int32 × hq_S) := if a3 < (hq_gi s 152 2) then (f_X0_cornerIn n a1 a3 s).bind fun y2 => (hq_ld y2.2 153 10 y2.1).bind fun x3 => (f_X0_cornerIn n a2 a3 y2.2).bind fun y4 => if ((x3 >>> (y4.1 &&& 31)) &&& (1 : Int32)) = 0 then some ((0 : Int32), y4.2) else q2 a1 a2 (a3 + (1 : Int32)) y4.2 else some ((1 : Int32), s)
def f_X0_isTurn_L2 (n : Nat) (m : Nat) : Int32 → Int32 → Int32 → hq_S → Option (Int32 × hq_S) := Nat.rec (fun _ _ _ _ => none) (fun _ q => f_X0_isTurn_L2_B n q) m
theorem f_X0_isTurn_L2_Brun {xs : List Int32} {n d g : Nat} {a1 : Int32} {a2 : Int32} {a3 : Int32} {q2 : Int32 → Int32 → Int32 → hq_S → Option (Int32 × hq_S)} {s : hq_S} {y : (Int32 × hq_S)} (hd : 1 ≤ d) (e2 : ∀ (a1 : Int32) (a2 : Int32) (a3 : Int32) (s : hq_S), q2 a1 a2 a3 s = some y → hq_R (mm_O xs) d mc_X0_isTurn 2 [some (.ref 152), some (.int a1), some (.int a2), some (.int a3)] [] s g (some (.int y.1)) y.2) (h : f_X0_isTurn_L2_B n q2 a1 a2 a3 s = some y) : hq_R (mm_O xs) d mc_X0_isTurn 2 [some (.ref 152), some (.int a1), some (.int a2), some (.int a3)] [] s g (some (.int y.1)) y.2 := by
  unfold f_X0_isTurn_L2_B at h
  refine hq_p 2 4 [some (.ref 152), some (.int a1), some (.int a2), some (.int a3)] [.ref 152, .int a3] (fun n h => rfl) ?_
  refine hq_gf (x := .int (hq_gi s 152 2)) rfl rfl rfl rfl rfl ?_
  by_cases c1 : a3 < (hq_gi s 152 2)
  · rw [if_pos c1] at h
    refine hq_icF rfl (hq_c_ge_F c1) ?_
    refine hq_p 1 11 [some (.ref 152), some (.int a1), some (.int a2), some (.int a3)] [.ref 152] (fun n h => rfl) ?_
    refine hq_gf (x := .ref 153) rfl rfl rfl rfl rfl ?_
    refine hq_p 3 17 [some (.ref 152), some (.int a1), some (.int a2), some (.int a3)] [.int a3, .int a1, .ref 152, .ref 153] (fun n h => rfl) ?_
    obtain ⟨y2, hy2, h⟩ := hq_bind h
    refine hq_inv rfl rfl (Nat.le_trans (by decide) hd) rfl rfl (hq_rcv rfl rfl) (f_X0_cornerIn_run (Nat.le_sub_of_add_le (Nat.le_trans (by decide) hd)) hy2) rfl ?_
    obtain ⟨x3, hx3, h⟩ := hq_bind h
    refine hq_iaload rfl rfl List.length_replicate hx3 ?_
    refine hq_p 3 24 [some (.ref 152), some (.int a1), some (.int a2), some (.int a3)] [.int a3, .int a2, .ref 152, .int x3] (fun n h => rfl) ?_
    obtain ⟨y4, hy4, h⟩ := hq_bind h
    refine hq_inv rfl rfl (Nat.le_trans (by decide) hd) rfl rfl (hq_rcv rfl rfl) (f_X0_cornerIn_run (Nat.le_sub_of_add_le (Nat.le_trans (by decide) hd)) hy4) rfl ?_
    refine hq_p 3 30 [some (.ref 152), some (.int a1), some (.int a2), some (.int a3)] [.int ((x3 >>> (y4.1 &&& 31)) &&& (1 : Int32))] (fun n h => rfl) ?_
    by_cases c5 : ((x3 >>> (y4.1 &&& 31)) &&& (1 : Int32)) = 0
    · rw [if_pos c5] at h
      refine hq_izF rfl (hq_c_ne_F c5) ?_
      refine hq_p 1 34 [some (.ref 152), some (.int a1), some (.int a2), some (.int a3)] [.int (0 : Int32)] (fun n h => rfl) ?_
      have h := Option.some.inj h
      subst h
      exact ⟨1, rfl⟩
    · rw [if_neg c5] at h
      refine hq_izT rfl (hq_c_ne_T c5) ?_
      refine hq_p 2 2 [some (.ref 152), some (.int a1), some (.int a2), some (.int (a3 + (1 : Int32)))] [] (fun n h => rfl) ?_
      exact e2 a1 a2 (a3 + (1 : Int32)) y4.2 h
  · rw [if_neg c1] at h
    refine hq_icT rfl (hq_c_ge_T c1) ?_
    refine hq_p 1 42 [some (.ref 152), some (.int a1), some (.int a2), some (.int a3)] [.int (1 : Int32)] (fun n h => rfl) ?_
    have h := Option.some.inj h
    subst h
    exact ⟨1, rfl⟩
theorem f_X0_isTurn_L2_run {xs : List Int32} {n m d g : Nat} {a1 : Int32} {a2 : Int32} {a3 : Int32} {s : hq_S} {y : (Int32 × hq_S)} (hd : 1 ≤ d) (h : f_X0_isTurn_L2 n m a1 a2 a3 s = some y) : hq_R (mm_O xs) d mc_X0_isTurn 2 [some (.ref 152), some (.int a1), some (.int a2), some (.int a3)] [] s g (some (.int y.1)) y.2 := by
  induction m generalizing a1 a2 a3 s with
  | zero => cases h
  | succ m ih => exact f_X0_isTurn_L2_Brun (n := n) hd (fun a1 a2 a3 s h => ih h) h
def f_X0_isTurn (n : Nat) (a1 : Int32) (a2 : Int32) (s : hq_S) : Option (Int32 × hq_S) := f_X0_isTurn_L2 n n a1 a2 (0 : Int32) s
theorem f_X0_isTurn_run {xs : List Int32} {n d g : Nat} {a1 : Int32} {a2 : Int32} {s : hq_S} {y : (Int32 × hq_S)} (hd : 1 ≤ d) (h : f_X0_isTurn n a1 a2 s = some y) : hq_R (mm_O xs) d mc_X0_isTurn 0 [some (.ref 152), some (.int a1), some (.int a2), none] [] s g (some (.int y.1)) y.2 := by
  unfold f_X0_isTurn at h
  refine hq_p 2 2 [some (.ref 152), some (.int a1), some (.int a2), some (.int (0 : Int32))] [] (fun n h => rfl) ?_
  exact f_X0_isTurn_L2_run hd h
def f_X0_safest_L8_B (n : Nat) (q8 : Int32 → Int32 → Int32 → Int32 → Int32 → hq_S → Option (Int32 × hq_S)) (a1 : Int32) (a2 : Int32) (a3 : Int32) (a4 : Int32) (a5 : Int32) (s : hq_S) : Option (Int32 × hq_S) := if a5 < (hq_gi s 152 0) then (hq_ld s 153 10 a2).bind fun x2 => (if ((x2 >>> (a5 &&& 31)) &&& (1 : Int32)) = (1 : Int32) then (f_X0_roundsFrom n a1 a5 s).bind fun y5 => if a4 < y5.1 then (f_X0_roundsFrom n a1 a5 y5.2).bind fun y7 => some (a5, y7.1, y7.2) else some (a3, a4, y5.2) else some (a3, a4, s)).bind fun z3 => q8 a1 a2 z3.1 z3.2.1 (a5 + (1 : Int32)) z3.2.2 else some (a3, s)
def f_X0_safest_L8 (n : Nat) (m : Nat) : Int32 → Int32 → Int32 → Int32 → Int32 → hq_S → Option (Int32 × hq_S) := Nat.rec (fun _ _ _ _ _ _ => none) (fun _ q => f_X0_safest_L8_B n q) m
theorem f_X0_safest_L8_Brun {xs : List Int32} {n d g : Nat} {a1 : Int32} {a2 : Int32} {a3 : Int32} {a4 : Int32} {a5 : Int32} {q8 : Int32 → Int32 → Int32 → Int32 → Int32 → hq_S → Option (Int32 × hq_S)} {s : hq_S} {y : (Int32 × hq_S)} (hd : 1 ≤ d) (e8 : ∀ (a1 : Int32) (a2 : Int32) (a3 : Int32) (a4 : Int32) (a5 : Int32) (s : hq_S), q8 a1 a2 a3 a4 a5 s = some y → hq_R (mm_O xs) d mc_X0_safest 8 [some (.ref 152), some (.int a1), some (.int a2), some (.int a3), some (.int a4), some (.int a5)] [] s g (some (.int y.1)) y.2) (h : f_X0_safest_L8_B n q8 a1 a2 a3 a4 a5 s = some y) : hq_R (mm_O xs) d mc_X0_safest 8 [some (.ref 152), some (.int a1), some (.int a2), some (.int a3), some (.int a4), some (.int a5)] [] s g (some (.int y.1)) y.2 := by
  unfold f_X0_safest_L8_B at h
  refine hq_p 2 11 [some (.ref 152), some (.int a1), some (.int a2), some (.int a3), some (.int a4), some (.int a5)] [.ref 152, .int a5] (fun n h => rfl) ?_
  refine hq_gf (x := .int (hq_gi s 152 0)) rfl rfl rfl rfl rfl ?_
  by_cases c1 : a5 < (hq_gi s 152 0)
  · rw [if_pos c1] at h
    refine hq_icF rfl (hq_c_ge_F c1) ?_
    refine hq_p 1 18 [some (.ref 152), some (.int a1), some (.int a2), some (.int a3), some (.int a4), some (.int a5)] [.ref 152] (fun n h => rfl) ?_
    refine hq_gf (x := .ref 153) rfl rfl rfl rfl rfl ?_
    refine hq_p 1 22 [some (.ref 152), some (.int a1), some (.int a2), some (.int a3), some (.int a4), some (.int a5)] [.int a2, .ref 153] (fun n h => rfl) ?_
    obtain ⟨x2, hx2, h⟩ := hq_bind h
    refine hq_iaload rfl rfl List.length_replicate hx2 ?_
    refine hq_p 5 29 [some (.ref 152), some (.int a1), some (.int a2), some (.int a3), some (.int a4), some (.int a5)] [.int (1 : Int32), .int ((x2 >>> (a5 &&& 31)) &&& (1 : Int32))] (fun n h => rfl) ?_
    obtain ⟨z3, hz3, h⟩ := hq_bind h
    suffices hT : hq_R (mm_O xs) d mc_X0_safest 56 [some (.ref 152), some (.int a1), some (.int a2), some (.int z3.1), some (.int z3.2.1), some (.int a5)] [] z3.2.2 g (some (.int y.1)) y.2 from by
      clear h
      have h := hz3
      by_cases c4 : ((x2 >>> (a5 &&& 31)) &&& (1 : Int32)) = (1 : Int32)
      · rw [if_pos c4] at h
        refine hq_icF rfl (hq_c_ne_F c4) ?_
        refine hq_p 3 36 [some (.ref 152), some (.int a1), some (.int a2), some (.int a3), some (.int a4), some (.int a5)] [.int a5, .int a1, .ref 152] (fun n h => rfl) ?_
        obtain ⟨y5, hy5, h⟩ := hq_bind h
        refine hq_inv rfl rfl (Nat.le_trans (by decide) hd) rfl rfl (hq_rcv rfl rfl) (f_X0_roundsFrom_run (Nat.le_sub_of_add_le (Nat.le_trans (by decide) hd)) hy5) rfl ?_
        refine hq_p 1 41 [some (.ref 152), some (.int a1), some (.int a2), some (.int a3), some (.int a4), some (.int a5)] [.int a4, .int y5.1] (fun n h => rfl) ?_
        by_cases c6 : a4 < y5.1
        · rw [if_pos c6] at h
          refine hq_icF rfl (hq_c_le_F c6) ?_
          refine hq_p 3 48 [some (.ref 152), some (.int a1), some (.int a2), some (.int a3), some (.int a4), some (.int a5)] [.int a5, .int a1, .ref 152] (fun n h => rfl) ?_
          obtain ⟨y7, hy7, h⟩ := hq_bind h
          refine hq_inv rfl rfl (Nat.le_trans (by decide) hd) rfl rfl (hq_rcv rfl rfl) (f_X0_roundsFrom_run (Nat.le_sub_of_add_le (Nat.le_trans (by decide) hd)) hy7) rfl ?_
          refine hq_p 3 56 [some (.ref 152), some (.int a1), some (.int a2), some (.int a5), some (.int y7.1), some (.int a5)] [] (fun n h => rfl) ?_
          cases h
          exact hT
        · rw [if_neg c6] at h
          refine hq_icT rfl (hq_c_le_T c6) ?_
          cases h
          exact hT
      · rw [if_neg c4] at h
        refine hq_icT rfl (hq_c_ne_T c4) ?_
        cases h
        exact hT
    refine hq_p 2 8 [some (.ref 152), some (.int a1), some (.int a2), some (.int z3.1), some (.int z3.2.1), some (.int (a5 + (1 : Int32)))] [] (fun n h => rfl) ?_
    exact e8 a1 a2 z3.1 z3.2.1 (a5 + (1 : Int32)) z3.2.2 h
  · rw [if_neg c1] at h
    refine hq_icT rfl (hq_c_ge_T c1) ?_
    refine hq_p 1 63 [some (.ref 152), some (.int a1), some (.int a2), some (.int a3), some (.int a4), some (.int a5)] [.int a3] (fun n h => rfl) ?_
    have h := Option.some.inj h
    subst h
    exact ⟨1, rfl⟩
theorem f_X0_safest_L8_run {xs : List Int32} {n m d g : Nat} {a1 : Int32} {a2 : Int32} {a3 : Int32} {a4 : Int32} {a5 : Int32} {s : hq_S} {y : (Int32 × hq_S)} (hd : 1 ≤ d) (h : f_X0_safest_L8 n m a1 a2 a3 a4 a5 s = some y) : hq_R (mm_O xs) d mc_X0_safest 8 [some (.ref 152), some (.int a1), some (.int a2), some (.int a3), some (.int a4), some (.int a5)] [] s g (some (.int y.1)) y.2 := by
  induction m generalizing a1 a2 a3 a4 a5 s with
  | zero => cases h
  | succ m ih => exact f_X0_safest_L8_Brun (n := n) hd (fun a1 a2 a3 a4 a5 s h => ih h) h
def f_X0_safest (n : Nat) (a1 : Int32) (a2 : Int32) (s : hq_S) : Option (Int32 × hq_S) := f_X0_safest_L8 n n a1 a2 a2 (-1 : Int32) (0 : Int32) s
theorem f_X0_safest_run {xs : List Int32} {n d g : Nat} {a1 : Int32} {a2 : Int32} {s : hq_S} {y : (Int32 × hq_S)} (hd : 1 ≤ d) (h : f_X0_safest n a1 a2 s = some y) : hq_R (mm_O xs) d mc_X0_safest 0 [some (.ref 152), some (.int a1), some (.int a2), none, none, none] [] s g (some (.int y.1)) y.2 := by
  unfold f_X0_safest at h
  refine hq_p 2 2 [some (.ref 152), some (.int a1), some (.int a2), some (.int a2), none, none] [] (fun n h => rfl) ?_
  refine hq_icn (-1 : Int32) rfl (by decide) ?_
  refine hq_p 3 8 [some (.ref 152), some (.int a1), some (.int a2), some (.int a2), some (.int (-1 : Int32)), some (.int (0 : Int32))] [] (fun n h => rfl) ?_
  exact f_X0_safest_L8_run hd h
def f_X0_roundsOnTurn (n : Nat) (a1 : Int32) (a2 : Int32) (s : hq_S) : Option (Int32 × hq_S) := (f_X0_roundsFrom n a1 a2 s).bind fun y1 => if y1.1 = 0 then some ((0 : Int32), y1.2) else (f_X0_safest n a1 a2 y1.2).bind fun y3 => (f_X0_roundsFrom n a1 y3.1 y3.2).bind fun y4 => some (y4.1, y4.2)
theorem f_X0_roundsOnTurn_run {xs : List Int32} {n d g : Nat} {a1 : Int32} {a2 : Int32} {s : hq_S} {y : (Int32 × hq_S)} (hd : 2 ≤ d) (h : f_X0_roundsOnTurn n a1 a2 s = some y) : hq_R (mm_O xs) d mc_X0_roundsOnTurn 0 [some (.ref 152), some (.int a1), some (.int a2)] [] s g (some (.int y.1)) y.2 := by
  unfold f_X0_roundsOnTurn at h
  refine hq_p 3 3 [some (.ref 152), some (.int a1), some (.int a2)] [.int a2, .int a1, .ref 152] (fun n h => rfl) ?_
  obtain ⟨y1, hy1, h⟩ := hq_bind h
  refine hq_inv rfl rfl (Nat.le_trans (by decide) hd) rfl rfl (hq_rcv rfl rfl) (f_X0_roundsFrom_run (Nat.le_sub_of_add_le (Nat.le_trans (by decide) hd)) hy1) rfl ?_
  by_cases c2 : y1.1 = 0
  · rw [if_pos c2] at h
    refine hq_izF rfl (hq_c_ne_F c2) ?_
    refine hq_p 2 24 [some (.ref 152), some (.int a1), some (.int a2)] [.int (0 : Int32)] (fun n h => rfl) ?_
    have h := Option.some.inj h
    subst h
    exact ⟨1, rfl⟩
  · rw [if_neg c2] at h
    refine hq_izT rfl (hq_c_ne_T c2) ?_
    refine hq_p 5 18 [some (.ref 152), some (.int a1), some (.int a2)] [.int a2, .int a1, .ref 152, .int a1, .ref 152] (fun n h => rfl) ?_
    obtain ⟨y3, hy3, h⟩ := hq_bind h
    refine hq_inv rfl rfl (Nat.le_trans (by decide) hd) rfl rfl (hq_rcv rfl rfl) (f_X0_safest_run (Nat.le_sub_of_add_le (Nat.le_trans (by decide) hd)) hy3) rfl ?_
    obtain ⟨y4, hy4, h⟩ := hq_bind h
    refine hq_inv rfl rfl (Nat.le_trans (by decide) hd) rfl rfl (hq_rcv rfl rfl) (f_X0_roundsFrom_run (Nat.le_sub_of_add_le (Nat.le_trans (by decide) hd)) hy4) rfl ?_
    have h := Option.some.inj h
    subst h
    exact ⟨1, rfl⟩
def f_X0_firstRow_J45 (n : Nat) (q12 : Int32 → Int32 → Int32 → Int32 → hq_S → Option (Int32 × hq_S)) (a1 : Int32) (a2 : Int32) (a3 : Int32) (a4 : Int32) (s : hq_S) : Option (Int32 × hq_S) := q12 a1 a2 a3 (a4 + (1 : Int32)) s
theorem f_X0_firstRow_J45_run {xs : List Int32} {n d g : Nat} {a1 : Int32} {a2 : Int32} {a3 : Int32} {a4 : Int32} {q12 : Int32 → Int32 → Int32 → Int32 → hq_S → Option (Int32 × hq_S)} {s : hq_S} {y : (Int32 × hq_S)} (hd : 3 ≤ d) (e12 : ∀ (a1 : Int32) (a2 : Int32) (a3 : Int32) (a4 : Int32) (s : hq_S), q12 a1 a2 a3 a4 s = some y → hq_R (mm_O xs) d mc_X0_firstRow 12 [some (.ref 152), some (.int a1), some (.int a2), some (.int a3), some (.int a4)] [] s g (some (.int y.1)) y.2) (h : f_X0_firstRow_J45 n q12 a1 a2 a3 a4 s = some y) : hq_R (mm_O xs) d mc_X0_firstRow 45 [some (.ref 152), some (.int a1), some (.int a2), some (.int a3), some (.int a4)] [] s g (some (.int y.1)) y.2 := by
  unfold f_X0_firstRow_J45 at h
  refine hq_p 2 12 [some (.ref 152), some (.int a1), some (.int a2), some (.int a3), some (.int (a4 + (1 : Int32)))] [] (fun n h => rfl) ?_
  exact e12 a1 a2 a3 (a4 + (1 : Int32)) s h
def f_X0_firstRow_L12_B (n : Nat) (q12 : Int32 → Int32 → Int32 → Int32 → hq_S → Option (Int32 × hq_S)) (a1 : Int32) (a2 : Int32) (a3 : Int32) (a4 : Int32) (s : hq_S) : Option (Int32 × hq_S) := if a4 < (hq_gi s 152 3) then (f_X0_isTurn n a1 a4 s).bind fun y3 => if y3.1 = 0 then f_X0_firstRow_J45 n q12 a1 a2 a3 a4 y3.2 else (f_X0_roundsOnTurn n a4 a2 y3.2).bind fun y5 => if y5.1 = a3 then some (a4, y5.2) else f_X0_firstRow_J45 n q12 a1 a2 a3 a4 y5.2 else some (a1, s)
def f_X0_firstRow_L12 (n : Nat) (m : Nat) : Int32 → Int32 → Int32 → Int32 → hq_S → Option (Int32 × hq_S) := Nat.rec (fun _ _ _ _ _ => none) (fun _ q => f_X0_firstRow_L12_B n q) m
theorem f_X0_firstRow_L12_Brun {xs : List Int32} {n d g : Nat} {a1 : Int32} {a2 : Int32} {a3 : Int32} {a4 : Int32} {q12 : Int32 → Int32 → Int32 → Int32 → hq_S → Option (Int32 × hq_S)} {s : hq_S} {y : (Int32 × hq_S)} (hd : 3 ≤ d) (e12 : ∀ (a1 : Int32) (a2 : Int32) (a3 : Int32) (a4 : Int32) (s : hq_S), q12 a1 a2 a3 a4 s = some y → hq_R (mm_O xs) d mc_X0_firstRow 12 [some (.ref 152), some (.int a1), some (.int a2), some (.int a3), some (.int a4)] [] s g (some (.int y.1)) y.2) (h : f_X0_firstRow_L12_B n q12 a1 a2 a3 a4 s = some y) : hq_R (mm_O xs) d mc_X0_firstRow 12 [some (.ref 152), some (.int a1), some (.int a2), some (.int a3), some (.int a4)] [] s g (some (.int y.1)) y.2 := by
  unfold f_X0_firstRow_L12_B at h
  refine hq_p 2 15 [some (.ref 152), some (.int a1), some (.int a2), some (.int a3), some (.int a4)] [.ref 152, .int a4] (fun n h => rfl) ?_
  refine hq_gf (x := .int (hq_gi s 152 3)) rfl rfl rfl rfl rfl ?_
  by_cases c2 : a4 < (hq_gi s 152 3)
  · rw [if_pos c2] at h
    refine hq_icF rfl (hq_c_ge_F c2) ?_
    refine hq_p 3 25 [some (.ref 152), some (.int a1), some (.int a2), some (.int a3), some (.int a4)] [.int a4, .int a1, .ref 152] (fun n h => rfl) ?_
    obtain ⟨y3, hy3, h⟩ := hq_bind h
    refine hq_inv rfl rfl (Nat.le_trans (by decide) hd) rfl rfl (hq_rcv rfl rfl) (f_X0_isTurn_run (Nat.le_sub_of_add_le (Nat.le_trans (by decide) hd)) hy3) rfl ?_
    by_cases c4 : y3.1 = 0
    · rw [if_pos c4] at h
      refine hq_izT rfl (hq_c_eq_T c4) ?_
      exact f_X0_firstRow_J45_run hd e12 h
    · rw [if_neg c4] at h
      refine hq_izF rfl (hq_c_eq_F c4) ?_
      refine hq_p 3 35 [some (.ref 152), some (.int a1), some (.int a2), some (.int a3), some (.int a4)] [.int a2, .int a4, .ref 152] (fun n h => rfl) ?_
      obtain ⟨y5, hy5, h⟩ := hq_bind h
      refine hq_inv rfl rfl (Nat.le_trans (by decide) hd) rfl rfl (hq_rcv rfl rfl) (f_X0_roundsOnTurn_run (Nat.le_sub_of_add_le (Nat.le_trans (by decide) hd)) hy5) rfl ?_
      refine hq_p 1 39 [some (.ref 152), some (.int a1), some (.int a2), some (.int a3), some (.int a4)] [.int a3, .int y5.1] (fun n h => rfl) ?_
      by_cases c6 : y5.1 = a3
      · rw [if_pos c6] at h
        refine hq_icF rfl (hq_c_ne_F c6) ?_
        refine hq_p 1 44 [some (.ref 152), some (.int a1), some (.int a2), some (.int a3), some (.int a4)] [.int a4] (fun n h => rfl) ?_
        have h := Option.some.inj h
        subst h
        exact ⟨1, rfl⟩
      · rw [if_neg c6] at h
        refine hq_icT rfl (hq_c_ne_T c6) ?_
        exact f_X0_firstRow_J45_run hd e12 h
  · rw [if_neg c2] at h
    refine hq_icT rfl (hq_c_ge_T c2) ?_
    refine hq_p 1 52 [some (.ref 152), some (.int a1), some (.int a2), some (.int a3), some (.int a4)] [.int a1] (fun n h => rfl) ?_
    have h := Option.some.inj h
    subst h
    exact ⟨1, rfl⟩
theorem f_X0_firstRow_L12_run {xs : List Int32} {n m d g : Nat} {a1 : Int32} {a2 : Int32} {a3 : Int32} {a4 : Int32} {s : hq_S} {y : (Int32 × hq_S)} (hd : 3 ≤ d) (h : f_X0_firstRow_L12 n m a1 a2 a3 a4 s = some y) : hq_R (mm_O xs) d mc_X0_firstRow 12 [some (.ref 152), some (.int a1), some (.int a2), some (.int a3), some (.int a4)] [] s g (some (.int y.1)) y.2 := by
  induction m generalizing a1 a2 a3 a4 s with
  | zero => cases h
  | succ m ih => exact f_X0_firstRow_L12_Brun (n := n) hd (fun a1 a2 a3 a4 s h => ih h) h
def f_X0_firstRow (n : Nat) (a1 : Int32) (a2 : Int32) (s : hq_S) : Option (Int32 × hq_S) := (f_X0_roundsFrom n a1 a2 s).bind fun y1 => f_X0_firstRow_L12 n n a1 a2 (y1.1 - (1 : Int32)) (0 : Int32) y1.2
theorem f_X0_firstRow_run {xs : List Int32} {n d g : Nat} {a1 : Int32} {a2 : Int32} {s : hq_S} {y : (Int32 × hq_S)} (hd : 3 ≤ d) (h : f_X0_firstRow n a1 a2 s = some y) : hq_R (mm_O xs) d mc_X0_firstRow 0 [some (.ref 152), some (.int a1), some (.int a2), none, none] [] s g (some (.int y.1)) y.2 := by
  unfold f_X0_firstRow at h
  refine hq_p 3 3 [some (.ref 152), some (.int a1), some (.int a2), none, none] [.int a2, .int a1, .ref 152] (fun n h => rfl) ?_
  obtain ⟨y1, hy1, h⟩ := hq_bind h
  refine hq_inv rfl rfl (Nat.le_trans (by decide) hd) rfl rfl (hq_rcv rfl rfl) (f_X0_roundsFrom_run (Nat.le_sub_of_add_le (Nat.le_trans (by decide) hd)) hy1) rfl ?_
  refine hq_p 5 12 [some (.ref 152), some (.int a1), some (.int a2), some (.int (y1.1 - (1 : Int32))), some (.int (0 : Int32))] [] (fun n h => rfl) ?_
  exact f_X0_firstRow_L12_run hd h
def f_X0_firstPostRow_L2_B (n : Nat) (q2 : Int32 → hq_S → Option (Int32 × hq_S)) (a1 : Int32) (s : hq_S) : Option (Int32 × hq_S) := if a1 < (hq_gi s 152 3) then (hq_ld s 155 1000 a1).bind fun x2 => if x2 = (((1 : Int32) <<< ((hq_gi s 152 0) &&& 31)) - (1 : Int32)) then some (a1, s) else q2 (a1 + (1 : Int32)) s else some ((-1 : Int32), s)
def f_X0_firstPostRow_L2 (n : Nat) (m : Nat) : Int32 → hq_S → Option (Int32 × hq_S) := Nat.rec (fun _ _ => none) (fun _ q => f_X0_firstPostRow_L2_B n q) m
theorem f_X0_firstPostRow_L2_Brun {xs : List Int32} {n d g : Nat} {a1 : Int32} {q2 : Int32 → hq_S → Option (Int32 × hq_S)} {s : hq_S} {y : (Int32 × hq_S)} (hd : 0 ≤ d) (e2 : ∀ (a1 : Int32) (s : hq_S), q2 a1 s = some y → hq_R (mm_O xs) d mc_X0_firstPostRow 2 [some (.ref 152), some (.int a1)] [] s g (some (.int y.1)) y.2) (h : f_X0_firstPostRow_L2_B n q2 a1 s = some y) : hq_R (mm_O xs) d mc_X0_firstPostRow 2 [some (.ref 152), some (.int a1)] [] s g (some (.int y.1)) y.2 := by
  unfold f_X0_firstPostRow_L2_B at h
  refine hq_p 2 4 [some (.ref 152), some (.int a1)] [.ref 152, .int a1] (fun n h => rfl) ?_
  refine hq_gf (x := .int (hq_gi s 152 3)) rfl rfl rfl rfl rfl ?_
  by_cases c1 : a1 < (hq_gi s 152 3)
  · rw [if_pos c1] at h
    refine hq_icF rfl (hq_c_ge_F c1) ?_
    refine hq_p 1 11 [some (.ref 152), some (.int a1)] [.ref 152] (fun n h => rfl) ?_
    refine hq_gf (x := .ref 155) rfl rfl rfl rfl rfl ?_
    refine hq_p 1 15 [some (.ref 152), some (.int a1)] [.int a1, .ref 155] (fun n h => rfl) ?_
    obtain ⟨x2, hx2, h⟩ := hq_bind h
    refine hq_iaload rfl rfl List.length_replicate hx2 ?_
    refine hq_p 2 18 [some (.ref 152), some (.int a1)] [.ref 152, .int (1 : Int32), .int x2] (fun n h => rfl) ?_
    refine hq_gf (x := .int (hq_gi s 152 0)) rfl rfl rfl rfl rfl ?_
    refine hq_p 3 24 [some (.ref 152), some (.int a1)] [.int (((1 : Int32) <<< ((hq_gi s 152 0) &&& 31)) - (1 : Int32)), .int x2] (fun n h => rfl) ?_
    by_cases c3 : x2 = (((1 : Int32) <<< ((hq_gi s 152 0) &&& 31)) - (1 : Int32))
    · rw [if_pos c3] at h
      refine hq_icF rfl (hq_c_ne_F c3) ?_
      refine hq_p 1 28 [some (.ref 152), some (.int a1)] [.int a1] (fun n h => rfl) ?_
      have h := Option.some.inj h
      subst h
      exact ⟨1, rfl⟩
    · rw [if_neg c3] at h
      refine hq_icT rfl (hq_c_ne_T c3) ?_
      refine hq_p 2 2 [some (.ref 152), some (.int (a1 + (1 : Int32)))] [] (fun n h => rfl) ?_
      exact e2 (a1 + (1 : Int32)) s h
  · rw [if_neg c1] at h
    refine hq_icT rfl (hq_c_ge_T c1) ?_
    refine hq_icn (-1 : Int32) rfl (by decide) ?_
    have h := Option.some.inj h
    subst h
    exact ⟨1, rfl⟩
theorem f_X0_firstPostRow_L2_run {xs : List Int32} {n m d g : Nat} {a1 : Int32} {s : hq_S} {y : (Int32 × hq_S)} (hd : 0 ≤ d) (h : f_X0_firstPostRow_L2 n m a1 s = some y) : hq_R (mm_O xs) d mc_X0_firstPostRow 2 [some (.ref 152), some (.int a1)] [] s g (some (.int y.1)) y.2 := by
  induction m generalizing a1 s with
  | zero => cases h
  | succ m ih => exact f_X0_firstPostRow_L2_Brun (n := n) hd (fun a1 s h => ih h) h
def f_X0_firstPostRow (n : Nat) (s : hq_S) : Option (Int32 × hq_S) := f_X0_firstPostRow_L2 n n (0 : Int32) s
theorem f_X0_firstPostRow_run {xs : List Int32} {n d g : Nat} {s : hq_S} {y : (Int32 × hq_S)} (hd : 0 ≤ d) (h : f_X0_firstPostRow n s = some y) : hq_R (mm_O xs) d mc_X0_firstPostRow 0 [some (.ref 152), none] [] s g (some (.int y.1)) y.2 := by
  unfold f_X0_firstPostRow at h
  refine hq_p 2 2 [some (.ref 152), some (.int (0 : Int32))] [] (fun n h => rfl) ?_
  exact f_X0_firstPostRow_L2_run hd h
def f_X0_findPosts_L25_B (n : Nat) (q25 : Nat → Int32 → hq_S → Option hq_S) (k1 : Nat) (a2 : Int32) (s : hq_S) : Option hq_S := if (3 : Int32) < a2 then some s else if (hq_gi s 152 10) = 0 then (f_X0_solve n k1 a2 s).bind fun s7 => (f_X0_firstPostRow n s7).bind fun y8 => (hq_pi y8.2 152 11 0 y8.1).bind fun s9 => (if (hq_gi s9 152 11) = (-1 : Int32) then some (0 : Int32) else some a2).bind fun z10 => (hq_pi s9 152 10 0 z10).bind fun s12 => q25 k1 (a2 + (1 : Int32)) s12 else some s
def f_X0_findPosts_L25 (n : Nat) (m : Nat) : Nat → Int32 → hq_S → Option hq_S := Nat.rec (fun _ _ _ => none) (fun _ q => f_X0_findPosts_L25_B n q) m
theorem f_X0_findPosts_L25_Brun {xs : List Int32} {n d g : Nat} {k1 : Nat} {a2 : Int32} {q25 : Nat → Int32 → hq_S → Option hq_S} {s : hq_S} {y : hq_S} (hd : 4 ≤ d) (e25 : ∀ (k1 : Nat) (a2 : Int32) (s : hq_S) (m1_ : hq_isS k1), q25 k1 a2 s = some y → hq_R (mm_O xs) d mc_X0_findPosts 25 [some (.ref 152), some (.ref k1), some (.int a2)] [] s g none y) (m1_ : hq_isS k1) (h : f_X0_findPosts_L25_B n q25 k1 a2 s = some y) : hq_R (mm_O xs) d mc_X0_findPosts 25 [some (.ref 152), some (.ref k1), some (.int a2)] [] s g none y := by
  unfold f_X0_findPosts_L25_B at h
  refine hq_p 2 27 [some (.ref 152), some (.ref k1), some (.int a2)] [.int (3 : Int32), .int a2] (fun n h => rfl) ?_
  by_cases c5 : (3 : Int32) < a2
  · rw [if_pos c5] at h
    refine hq_icT rfl (hq_c_gt_T c5) ?_
    have h := Option.some.inj h
    subst h
    exact ⟨1, rfl⟩
  · rw [if_neg c5] at h
    refine hq_icF rfl (hq_c_gt_F c5) ?_
    refine hq_p 1 31 [some (.ref 152), some (.ref k1), some (.int a2)] [.ref 152] (fun n h => rfl) ?_
    refine hq_gf (x := .int (hq_gi s 152 10)) rfl rfl rfl rfl rfl ?_
    by_cases c6 : (hq_gi s 152 10) = 0
    · rw [if_pos c6] at h
      refine hq_izF rfl (hq_c_ne_F c6) ?_
      refine hq_p 3 40 [some (.ref 152), some (.ref k1), some (.int a2)] [.int a2, .ref k1, .ref 152] (fun n h => rfl) ?_
      obtain ⟨s7, hs7, h⟩ := hq_bind h
      refine hq_inv rfl rfl (Nat.le_trans (by decide) hd) rfl rfl (hq_rcv rfl rfl) (f_X0_solve_run (Nat.le_sub_of_add_le (Nat.le_trans (by decide) hd)) m1_ hs7) rfl ?_
      refine hq_p 2 45 [some (.ref 152), some (.ref k1), some (.int a2)] [.ref 152, .ref 152] (fun n h => rfl) ?_
      obtain ⟨y8, hy8, h⟩ := hq_bind h
      refine hq_inv rfl rfl (Nat.le_trans (by decide) hd) rfl rfl (hq_rcv rfl rfl) (f_X0_firstPostRow_run (Nat.le_sub_of_add_le (Nat.le_trans (by decide) hd)) hy8) rfl ?_
      obtain ⟨s9, hs9, h⟩ := hq_bind h
      refine hq_pfi rfl rfl rfl rfl rfl hs9 ?_
      refine hq_p 2 53 [some (.ref 152), some (.ref k1), some (.int a2)] [.ref 152, .ref 152] (fun n h => rfl) ?_
      refine hq_gf (x := .int (hq_gi s9 152 11)) rfl rfl rfl rfl rfl ?_
      refine hq_icn (-1 : Int32) rfl (by decide) ?_
      obtain ⟨z10, hz10, h⟩ := hq_bind h
      suffices hT : hq_R (mm_O xs) d mc_X0_findPosts 65 [some (.ref 152), some (.ref k1), some (.int a2)] [.int z10, .ref 152] s9 g none y from by
        clear h
        have h := hz10
        by_cases c11 : (hq_gi s9 152 11) = (-1 : Int32)
        · rw [if_pos c11] at h
          refine hq_icF rfl (hq_c_ne_F c11) ?_
          refine hq_p 2 65 [some (.ref 152), some (.ref k1), some (.int a2)] [.int (0 : Int32), .ref 152] (fun n h => rfl) ?_
          cases h
          exact hT
        · rw [if_neg c11] at h
          refine hq_icT rfl (hq_c_ne_T c11) ?_
          refine hq_p 1 65 [some (.ref 152), some (.ref k1), some (.int a2)] [.int a2, .ref 152] (fun n h => rfl) ?_
          cases h
          exact hT
      obtain ⟨s12, hs12, h⟩ := hq_bind h
      refine hq_pfi rfl rfl rfl rfl rfl hs12 ?_
      refine hq_p 2 25 [some (.ref 152), some (.ref k1), some (.int (a2 + (1 : Int32)))] [] (fun n h => rfl) ?_
      exact e25 k1 (a2 + (1 : Int32)) s12 m1_ h
    · rw [if_neg c6] at h
      refine hq_izT rfl (hq_c_ne_T c6) ?_
      have h := Option.some.inj h
      subst h
      exact ⟨1, rfl⟩
theorem f_X0_findPosts_L25_run {xs : List Int32} {n m d g : Nat} {k1 : Nat} {a2 : Int32} {s : hq_S} {y : hq_S} (hd : 4 ≤ d) (m1_ : hq_isS k1) (h : f_X0_findPosts_L25 n m k1 a2 s = some y) : hq_R (mm_O xs) d mc_X0_findPosts 25 [some (.ref 152), some (.ref k1), some (.int a2)] [] s g none y := by
  induction m generalizing k1 a2 s with
  | zero => cases h
  | succ m ih => exact f_X0_findPosts_L25_Brun (n := n) hd (fun k1 a2 s m1_ h => ih m1_ h) m1_ h
def f_X0_findPosts (n : Nat) (k1 : Nat) (s : hq_S) : Option hq_S := (f_X0_fitTo n k1 s).bind fun s1 => if (hq_gi s1 152 9) = 0 then (hq_pi s1 152 9 1 (1 : Int32)).bind fun s3 => (hq_pi s3 152 10 0 (0 : Int32)).bind fun s4 => f_X0_findPosts_L25 n n k1 (1 : Int32) s4 else some s1
theorem f_X0_findPosts_run {xs : List Int32} {n d g : Nat} {k1 : Nat} {s : hq_S} {y : hq_S} (hd : 4 ≤ d) (m1_ : hq_isS k1) (h : f_X0_findPosts n k1 s = some y) : hq_R (mm_O xs) d mc_X0_findPosts 0 [some (.ref 152), some (.ref k1), none] [] s g none y := by
  unfold f_X0_findPosts at h
  refine hq_p 2 2 [some (.ref 152), some (.ref k1), none] [.ref k1, .ref 152] (fun n h => rfl) ?_
  obtain ⟨s1, hs1, h⟩ := hq_bind h
  refine hq_inv rfl rfl (Nat.le_trans (by decide) hd) rfl rfl (hq_rcv rfl rfl) (f_X0_fitTo_run (Nat.le_sub_of_add_le (Nat.le_trans (by decide) hd)) m1_ hs1) rfl ?_
  refine hq_p 1 6 [some (.ref 152), some (.ref k1), none] [.ref 152] (fun n h => rfl) ?_
  refine hq_gf (x := .int (hq_gi s1 152 9)) rfl rfl rfl rfl rfl ?_
  by_cases c2 : (hq_gi s1 152 9) = 0
  · rw [if_pos c2] at h
    refine hq_izT rfl (hq_c_eq_T c2) ?_
    refine hq_p 2 15 [some (.ref 152), some (.ref k1), none] [.int (1 : Int32), .ref 152] (fun n h => rfl) ?_
    obtain ⟨s3, hs3, h⟩ := hq_bind h
    refine hq_pfi rfl rfl rfl rfl rfl hs3 ?_
    refine hq_p 2 20 [some (.ref 152), some (.ref k1), none] [.int (0 : Int32), .ref 152] (fun n h => rfl) ?_
    obtain ⟨s4, hs4, h⟩ := hq_bind h
    refine hq_pfi rfl rfl rfl rfl rfl hs4 ?_
    refine hq_p 2 25 [some (.ref 152), some (.ref k1), some (.int (1 : Int32))] [] (fun n h => rfl) ?_
    exact f_X0_findPosts_L25_run hd m1_ h
  · rw [if_neg c2] at h
    refine hq_izF rfl (hq_c_eq_F c2) ?_
    have h := Option.some.inj h
    subst h
    exact ⟨1, rfl⟩
def f_X1_clear (n : Nat) (s : hq_S) : Option hq_S := (hq_pi s 170 0 0 (0 : Int32)).bind fun s1 => some s1
theorem f_X1_clear_run {xs : List Int32} {n d g : Nat} {s : hq_S} {y : hq_S} (hd : 0 ≤ d) (h : f_X1_clear n s = some y) : hq_R (mm_O xs) d mc_X1_clear 0 [some (.ref 170)] [] s g none y := by
  unfold f_X1_clear at h
  refine hq_p 2 2 [some (.ref 170)] [.int (0 : Int32), .ref 170] (fun n h => rfl) ?_
  obtain ⟨s1, hs1, h⟩ := hq_bind h
  refine hq_pfi rfl rfl rfl rfl rfl hs1 ?_
  have h := Option.some.inj h
  subst h
  exact ⟨1, rfl⟩
def f_X1_forgetFirst (n : Nat) (s : hq_S) : Option hq_S := (hq_pi s 170 0 0 (19 : Int32)).bind fun s1 => (hq_cp s1 171 20 171 20 (1 : Int32) (0 : Int32) (hq_gi s1 170 0)).bind fun s2 => (hq_cp s2 172 20 172 20 (1 : Int32) (0 : Int32) (hq_gi s2 170 0)).bind fun s3 => (hq_cp s3 173 20 173 20 (1 : Int32) (0 : Int32) (hq_gi s3 170 0)).bind fun s4 => some s4
theorem f_X1_forgetFirst_run {xs : List Int32} {n d g : Nat} {s : hq_S} {y : hq_S} (hd : 1 ≤ d) (h : f_X1_forgetFirst n s = some y) : hq_R (mm_O xs) d mc_X1_forgetFirst 0 [some (.ref 170)] [] s g none y := by
  unfold f_X1_forgetFirst at h
  refine hq_p 1 1 [some (.ref 170)] [.ref 170] (fun n h => rfl) ?_
  refine hq_bip (19 : Int32) rfl (by decide) ?_
  obtain ⟨s1, hs1, h⟩ := hq_bind h
  refine hq_pfi rfl rfl rfl rfl rfl hs1 ?_
  refine hq_p 1 7 [some (.ref 170)] [.ref 170] (fun n h => rfl) ?_
  refine hq_gf (x := .ref 171) rfl rfl rfl rfl rfl ?_
  refine hq_p 2 12 [some (.ref 170)] [.ref 170, .int (1 : Int32), .ref 171] (fun n h => rfl) ?_
  refine hq_gf (x := .ref 171) rfl rfl rfl rfl rfl ?_
  refine hq_p 2 17 [some (.ref 170)] [.ref 170, .int (0 : Int32), .ref 171, .int (1 : Int32), .ref 171] (fun n h => rfl) ?_
  refine hq_gf (x := .int (hq_gi s1 170 0)) rfl rfl rfl rfl rfl ?_
  obtain ⟨s2, hs2, h⟩ := hq_bind h
  refine hq_copy_ rfl rfl List.length_replicate rfl List.length_replicate hs2 rfl (Nat.le_trans (by decide) hd) ?_
  refine hq_p 1 24 [some (.ref 170)] [.ref 170] (fun n h => rfl) ?_
  refine hq_gf (x := .ref 172) rfl rfl rfl rfl rfl ?_
  refine hq_p 2 29 [some (.ref 170)] [.ref 170, .int (1 : Int32), .ref 172] (fun n h => rfl) ?_
  refine hq_gf (x := .ref 172) rfl rfl rfl rfl rfl ?_
  refine hq_p 2 34 [some (.ref 170)] [.ref 170, .int (0 : Int32), .ref 172, .int (1 : Int32), .ref 172] (fun n h => rfl) ?_
  refine hq_gf (x := .int (hq_gi s2 170 0)) rfl rfl rfl rfl rfl ?_
  obtain ⟨s3, hs3, h⟩ := hq_bind h
  refine hq_copy_ rfl rfl List.length_replicate rfl List.length_replicate hs3 rfl (Nat.le_trans (by decide) hd) ?_
  refine hq_p 1 41 [some (.ref 170)] [.ref 170] (fun n h => rfl) ?_
  refine hq_gf (x := .ref 173) rfl rfl rfl rfl rfl ?_
  refine hq_p 2 46 [some (.ref 170)] [.ref 170, .int (1 : Int32), .ref 173] (fun n h => rfl) ?_
  refine hq_gf (x := .ref 173) rfl rfl rfl rfl rfl ?_
  refine hq_p 2 51 [some (.ref 170)] [.ref 170, .int (0 : Int32), .ref 173, .int (1 : Int32), .ref 173] (fun n h => rfl) ?_
  refine hq_gf (x := .int (hq_gi s3 170 0)) rfl rfl rfl rfl rfl ?_
  obtain ⟨s4, hs4, h⟩ := hq_bind h
  refine hq_copy_ rfl rfl List.length_replicate rfl List.length_replicate hs4 rfl (Nat.le_trans (by decide) hd) ?_
  have h := Option.some.inj h
  subst h
  exact ⟨1, rfl⟩
def f_X1_note (n : Nat) (a1 : Int32) (a2 : Int32) (a3 : Int32) (s : hq_S) : Option hq_S := (if (hq_gi s 170 0) < (20 : Int32) then some s else (f_X1_forgetFirst n s).bind fun s3 => some s3).bind fun z1 => (hq_st z1 171 20 (hq_gi z1 170 0) a1).bind fun s4 => (hq_st s4 172 20 (hq_gi s4 170 0) a2).bind fun s5 => (hq_st s5 173 20 (hq_gi s5 170 0) a3).bind fun s6 => (hq_pi s6 170 0 0 ((hq_gi s6 170 0) + (1 : Int32))).bind fun s7 => some s7
theorem f_X1_note_run {xs : List Int32} {n d g : Nat} {a1 : Int32} {a2 : Int32} {a3 : Int32} {s : hq_S} {y : hq_S} (hd : 2 ≤ d) (h : f_X1_note n a1 a2 a3 s = some y) : hq_R (mm_O xs) d mc_X1_note 0 [some (.ref 170), some (.int a1), some (.int a2), some (.int a3)] [] s g none y := by
  unfold f_X1_note at h
  refine hq_p 1 1 [some (.ref 170), some (.int a1), some (.int a2), some (.int a3)] [.ref 170] (fun n h => rfl) ?_
  refine hq_gf (x := .int (hq_gi s 170 0)) rfl rfl rfl rfl rfl ?_
  refine hq_bip (20 : Int32) rfl (by decide) ?_
  obtain ⟨z1, hz1, h⟩ := hq_bind h
  suffices hT : hq_R (mm_O xs) d mc_X1_note 13 [some (.ref 170), some (.int a1), some (.int a2), some (.int a3)] [] z1 g none y from by
    clear h
    have h := hz1
    by_cases c2 : (hq_gi s 170 0) < (20 : Int32)
    · rw [if_pos c2] at h
      refine hq_icT rfl (hq_c_lt_T c2) ?_
      cases h
      exact hT
    · rw [if_neg c2] at h
      refine hq_icF rfl (hq_c_lt_F c2) ?_
      refine hq_p 1 10 [some (.ref 170), some (.int a1), some (.int a2), some (.int a3)] [.ref 170] (fun n h => rfl) ?_
      obtain ⟨s3, hs3, h⟩ := hq_bind h
      refine hq_inv rfl rfl (Nat.le_trans (by decide) hd) rfl rfl (hq_rcv rfl rfl) (f_X1_forgetFirst_run (Nat.le_sub_of_add_le (Nat.le_trans (by decide) hd)) hs3) rfl ?_
      cases h
      exact hT
  refine hq_p 1 14 [some (.ref 170), some (.int a1), some (.int a2), some (.int a3)] [.ref 170] (fun n h => rfl) ?_
  refine hq_gf (x := .ref 171) rfl rfl rfl rfl rfl ?_
  refine hq_p 1 18 [some (.ref 170), some (.int a1), some (.int a2), some (.int a3)] [.ref 170, .ref 171] (fun n h => rfl) ?_
  refine hq_gf (x := .int (hq_gi z1 170 0)) rfl rfl rfl rfl rfl ?_
  refine hq_p 1 22 [some (.ref 170), some (.int a1), some (.int a2), some (.int a3)] [.int a1, .int (hq_gi z1 170 0), .ref 171] (fun n h => rfl) ?_
  obtain ⟨s4, hs4, h⟩ := hq_bind h
  refine hq_iastore rfl rfl List.length_replicate hs4 ?_
  refine hq_p 1 24 [some (.ref 170), some (.int a1), some (.int a2), some (.int a3)] [.ref 170] (fun n h => rfl) ?_
  refine hq_gf (x := .ref 172) rfl rfl rfl rfl rfl ?_
  refine hq_p 1 28 [some (.ref 170), some (.int a1), some (.int a2), some (.int a3)] [.ref 170, .ref 172] (fun n h => rfl) ?_
  refine hq_gf (x := .int (hq_gi s4 170 0)) rfl rfl rfl rfl rfl ?_
  refine hq_p 1 32 [some (.ref 170), some (.int a1), some (.int a2), some (.int a3)] [.int a2, .int (hq_gi s4 170 0), .ref 172] (fun n h => rfl) ?_
  obtain ⟨s5, hs5, h⟩ := hq_bind h
  refine hq_iastore rfl rfl List.length_replicate hs5 ?_
  refine hq_p 1 34 [some (.ref 170), some (.int a1), some (.int a2), some (.int a3)] [.ref 170] (fun n h => rfl) ?_
  refine hq_gf (x := .ref 173) rfl rfl rfl rfl rfl ?_
  refine hq_p 1 38 [some (.ref 170), some (.int a1), some (.int a2), some (.int a3)] [.ref 170, .ref 173] (fun n h => rfl) ?_
  refine hq_gf (x := .int (hq_gi s5 170 0)) rfl rfl rfl rfl rfl ?_
  refine hq_p 1 42 [some (.ref 170), some (.int a1), some (.int a2), some (.int a3)] [.int a3, .int (hq_gi s5 170 0), .ref 173] (fun n h => rfl) ?_
  obtain ⟨s6, hs6, h⟩ := hq_bind h
  refine hq_iastore rfl rfl List.length_replicate hs6 ?_
  refine hq_p 2 45 [some (.ref 170), some (.int a1), some (.int a2), some (.int a3)] [.ref 170, .ref 170] (fun n h => rfl) ?_
  refine hq_gf (x := .int (hq_gi s6 170 0)) rfl rfl rfl rfl rfl ?_
  refine hq_p 2 50 [some (.ref 170), some (.int a1), some (.int a2), some (.int a3)] [.int ((hq_gi s6 170 0) + (1 : Int32)), .ref 170] (fun n h => rfl) ?_
  obtain ⟨s7, hs7, h⟩ := hq_bind h
  refine hq_pfi rfl rfl rfl rfl rfl hs7 ?_
  have h := Option.some.inj h
  subst h
  exact ⟨1, rfl⟩
def f_X1_takeLatest (n : Nat) (s : hq_S) : Option hq_S := if 0 < (hq_gi s 170 0) then (hq_pi s 170 0 0 ((hq_gi s 170 0) - (1 : Int32))).bind fun s2 => (hq_ld s2 171 20 (hq_gi s2 170 0)).bind fun x3 => (hq_pi s2 170 4 0 x3).bind fun s4 => (hq_ld s4 172 20 (hq_gi s4 170 0)).bind fun x5 => (hq_pi s4 170 5 0 x5).bind fun s6 => (hq_ld s6 173 20 (hq_gi s6 170 0)).bind fun x7 => (hq_pi s6 170 6 0 x7).bind fun s8 => some s8 else some s
theorem f_X1_takeLatest_run {xs : List Int32} {n d g : Nat} {s : hq_S} {y : hq_S} (hd : 0 ≤ d) (h : f_X1_takeLatest n s = some y) : hq_R (mm_O xs) d mc_X1_takeLatest 0 [some (.ref 170)] [] s g none y := by
  unfold f_X1_takeLatest at h
  refine hq_p 1 1 [some (.ref 170)] [.ref 170] (fun n h => rfl) ?_
  refine hq_gf (x := .int (hq_gi s 170 0)) rfl rfl rfl rfl rfl ?_
  by_cases c1 : 0 < (hq_gi s 170 0)
  · rw [if_pos c1] at h
    refine hq_izF rfl (hq_c_le_F c1) ?_
    refine hq_p 2 9 [some (.ref 170)] [.ref 170, .ref 170] (fun n h => rfl) ?_
    refine hq_gf (x := .int (hq_gi s 170 0)) rfl rfl rfl rfl rfl ?_
    refine hq_p 2 14 [some (.ref 170)] [.int ((hq_gi s 170 0) - (1 : Int32)), .ref 170] (fun n h => rfl) ?_
    obtain ⟨s2, hs2, h⟩ := hq_bind h
    refine hq_pfi rfl rfl rfl rfl rfl hs2 ?_
    refine hq_p 2 19 [some (.ref 170)] [.ref 170, .ref 170] (fun n h => rfl) ?_
    refine hq_gf (x := .ref 171) rfl rfl rfl rfl rfl ?_
    refine hq_p 1 23 [some (.ref 170)] [.ref 170, .ref 171, .ref 170] (fun n h => rfl) ?_
    refine hq_gf (x := .int (hq_gi s2 170 0)) rfl rfl rfl rfl rfl ?_
    obtain ⟨x3, hx3, h⟩ := hq_bind h
    refine hq_iaload rfl rfl List.length_replicate hx3 ?_
    obtain ⟨s4, hs4, h⟩ := hq_bind h
    refine hq_pfi rfl rfl rfl rfl rfl hs4 ?_
    refine hq_p 2 32 [some (.ref 170)] [.ref 170, .ref 170] (fun n h => rfl) ?_
    refine hq_gf (x := .ref 172) rfl rfl rfl rfl rfl ?_
    refine hq_p 1 36 [some (.ref 170)] [.ref 170, .ref 172, .ref 170] (fun n h => rfl) ?_
    refine hq_gf (x := .int (hq_gi s4 170 0)) rfl rfl rfl rfl rfl ?_
    obtain ⟨x5, hx5, h⟩ := hq_bind h
    refine hq_iaload rfl rfl List.length_replicate hx5 ?_
    obtain ⟨s6, hs6, h⟩ := hq_bind h
    refine hq_pfi rfl rfl rfl rfl rfl hs6 ?_
    refine hq_p 2 45 [some (.ref 170)] [.ref 170, .ref 170] (fun n h => rfl) ?_
    refine hq_gf (x := .ref 173) rfl rfl rfl rfl rfl ?_
    refine hq_p 1 49 [some (.ref 170)] [.ref 170, .ref 173, .ref 170] (fun n h => rfl) ?_
    refine hq_gf (x := .int (hq_gi s6 170 0)) rfl rfl rfl rfl rfl ?_
    obtain ⟨x7, hx7, h⟩ := hq_bind h
    refine hq_iaload rfl rfl List.length_replicate hx7 ?_
    obtain ⟨s8, hs8, h⟩ := hq_bind h
    refine hq_pfi rfl rfl rfl rfl rfl hs8 ?_
    have h := Option.some.inj h
    subst h
    exact ⟨1, rfl⟩
  · rw [if_neg c1] at h
    refine hq_izT rfl (hq_c_le_T c1) ?_
    have h := Option.some.inj h
    subst h
    exact ⟨1, rfl⟩
def f_X2_clear (n : Nat) (s : hq_S) : Option hq_S := (hq_pi s 163 0 0 (0 : Int32)).bind fun s1 => (hq_pi s1 163 1 0 (-1 : Int32)).bind fun s2 => some s2
theorem f_X2_clear_run {xs : List Int32} {n d g : Nat} {s : hq_S} {y : hq_S} (hd : 0 ≤ d) (h : f_X2_clear n s = some y) : hq_R (mm_O xs) d mc_X2_clear 0 [some (.ref 163)] [] s g none y := by
  unfold f_X2_clear at h
  refine hq_p 2 2 [some (.ref 163)] [.int (0 : Int32), .ref 163] (fun n h => rfl) ?_
  obtain ⟨s1, hs1, h⟩ := hq_bind h
  refine hq_pfi rfl rfl rfl rfl rfl hs1 ?_
  refine hq_p 1 6 [some (.ref 163)] [.ref 163] (fun n h => rfl) ?_
  refine hq_icn (-1 : Int32) rfl (by decide) ?_
  obtain ⟨s2, hs2, h⟩ := hq_bind h
  refine hq_pfi rfl rfl rfl rfl rfl hs2 ?_
  have h := Option.some.inj h
  subst h
  exact ⟨1, rfl⟩
def f_X2_knownBy (n : Nat) (s : hq_S) : Option (Int32 × hq_S) := if (hq_gi s 163 1) = (-1 : Int32) then some ((hq_gi s 163 0), s) else some ((hq_gi s 163 1), s)
theorem f_X2_knownBy_run {xs : List Int32} {n d g : Nat} {s : hq_S} {y : (Int32 × hq_S)} (hd : 0 ≤ d) (h : f_X2_knownBy n s = some y) : hq_R (mm_O xs) d mc_X2_knownBy 0 [some (.ref 163)] [] s g (some (.int y.1)) y.2 := by
  unfold f_X2_knownBy at h
  refine hq_p 1 1 [some (.ref 163)] [.ref 163] (fun n h => rfl) ?_
  refine hq_gf (x := .int (hq_gi s 163 1)) rfl rfl rfl rfl rfl ?_
  refine hq_icn (-1 : Int32) rfl (by decide) ?_
  by_cases c1 : (hq_gi s 163 1) = (-1 : Int32)
  · rw [if_pos c1] at h
    refine hq_icF rfl (hq_c_ne_F c1) ?_
    refine hq_p 1 9 [some (.ref 163)] [.ref 163] (fun n h => rfl) ?_
    refine hq_gf (x := .int (hq_gi s 163 0)) rfl rfl rfl rfl rfl ?_
    refine hq_p 1 19 [some (.ref 163)] [.int (hq_gi s 163 0)] (fun n h => rfl) ?_
    have h := Option.some.inj h
    subst h
    exact ⟨1, rfl⟩
  · rw [if_neg c1] at h
    refine hq_icT rfl (hq_c_ne_T c1) ?_
    refine hq_p 1 16 [some (.ref 163)] [.ref 163] (fun n h => rfl) ?_
    refine hq_gf (x := .int (hq_gi s 163 1)) rfl rfl rfl rfl rfl ?_
    have h := Option.some.inj h
    subst h
    exact ⟨1, rfl⟩
def f_X2_knowBy (n : Nat) (a1 : Int32) (s : hq_S) : Option (Int32 × hq_S) := if a1 < (-1 : Int32) then some ((0 : Int32), s) else if (hq_gi s 163 0) < a1 then some ((0 : Int32), s) else (hq_pi s 163 1 0 a1).bind fun s3 => some ((1 : Int32), s3)
theorem f_X2_knowBy_run {xs : List Int32} {n d g : Nat} {a1 : Int32} {s : hq_S} {y : (Int32 × hq_S)} (hd : 0 ≤ d) (h : f_X2_knowBy n a1 s = some y) : hq_R (mm_O xs) d mc_X2_knowBy 0 [some (.ref 163), some (.int a1)] [] s g (some (.int y.1)) y.2 := by
  unfold f_X2_knowBy at h
  refine hq_p 1 1 [some (.ref 163), some (.int a1)] [.int a1] (fun n h => rfl) ?_
  refine hq_icn (-1 : Int32) rfl (by decide) ?_
  by_cases c1 : a1 < (-1 : Int32)
  · rw [if_pos c1] at h
    refine hq_icT rfl (hq_c_lt_T c1) ?_
    refine hq_p 1 14 [some (.ref 163), some (.int a1)] [.int (0 : Int32)] (fun n h => rfl) ?_
    have h := Option.some.inj h
    subst h
    exact ⟨1, rfl⟩
  · rw [if_neg c1] at h
    refine hq_icF rfl (hq_c_lt_F c1) ?_
    refine hq_p 2 7 [some (.ref 163), some (.int a1)] [.ref 163, .int a1] (fun n h => rfl) ?_
    refine hq_gf (x := .int (hq_gi s 163 0)) rfl rfl rfl rfl rfl ?_
    by_cases c2 : (hq_gi s 163 0) < a1
    · rw [if_pos c2] at h
      refine hq_icF rfl (hq_c_le_F c2) ?_
      refine hq_p 1 14 [some (.ref 163), some (.int a1)] [.int (0 : Int32)] (fun n h => rfl) ?_
      have h := Option.some.inj h
      subst h
      exact ⟨1, rfl⟩
    · rw [if_neg c2] at h
      refine hq_icT rfl (hq_c_le_T c2) ?_
      refine hq_p 2 17 [some (.ref 163), some (.int a1)] [.int a1, .ref 163] (fun n h => rfl) ?_
      obtain ⟨s3, hs3, h⟩ := hq_bind h
      refine hq_pfi rfl rfl rfl rfl rfl hs3 ?_
      refine hq_p 1 21 [some (.ref 163), some (.int a1)] [.int (1 : Int32)] (fun n h => rfl) ?_
      have h := Option.some.inj h
      subst h
      exact ⟨1, rfl⟩
def f_X2_addSight (n : Nat) (a1 : Int32) (a2 : Int32) (a3 : Int32) (a4 : Int32) (s : hq_S) : Option (Int32 × hq_S) := if (hq_gi s 163 0) < (24 : Int32) then (hq_st s 164 24 (hq_gi s 163 0) a1).bind fun s2 => (hq_st s2 165 24 (hq_gi s2 163 0) a2).bind fun s3 => (hq_st s3 166 24 (hq_gi s3 163 0) a3).bind fun s4 => (hq_st s4 167 24 (hq_gi s4 163 0) (hq_nar .boolean a4)).bind fun s5 => (hq_st s5 168 24 (hq_gi s5 163 0) (-1 : Int32)).bind fun s6 => (hq_pi s6 163 0 0 ((hq_gi s6 163 0) + (1 : Int32))).bind fun s7 => some (((hq_gi s7 163 0) - (1 : Int32)), s7) else some ((-1 : Int32), s)
theorem f_X2_addSight_run {xs : List Int32} {n d g : Nat} {a1 : Int32} {a2 : Int32} {a3 : Int32} {a4 : Int32} {s : hq_S} {y : (Int32 × hq_S)} (hd : 0 ≤ d) (h : f_X2_addSight n a1 a2 a3 a4 s = some y) : hq_R (mm_O xs) d mc_X2_addSight 0 [some (.ref 163), some (.int a1), some (.int a2), some (.int a3), some (.int a4)] [] s g (some (.int y.1)) y.2 := by
  unfold f_X2_addSight at h
  refine hq_p 1 1 [some (.ref 163), some (.int a1), some (.int a2), some (.int a3), some (.int a4)] [.ref 163] (fun n h => rfl) ?_
  refine hq_gf (x := .int (hq_gi s 163 0)) rfl rfl rfl rfl rfl ?_
  refine hq_bip (24 : Int32) rfl (by decide) ?_
  by_cases c1 : (hq_gi s 163 0) < (24 : Int32)
  · rw [if_pos c1] at h
    refine hq_icT rfl (hq_c_lt_T c1) ?_
    refine hq_p 1 12 [some (.ref 163), some (.int a1), some (.int a2), some (.int a3), some (.int a4)] [.ref 163] (fun n h => rfl) ?_
    refine hq_gf (x := .ref 164) rfl rfl rfl rfl rfl ?_
    refine hq_p 1 16 [some (.ref 163), some (.int a1), some (.int a2), some (.int a3), some (.int a4)] [.ref 163, .ref 164] (fun n h => rfl) ?_
    refine hq_gf (x := .int (hq_gi s 163 0)) rfl rfl rfl rfl rfl ?_
    refine hq_p 1 20 [some (.ref 163), some (.int a1), some (.int a2), some (.int a3), some (.int a4)] [.int a1, .int (hq_gi s 163 0), .ref 164] (fun n h => rfl) ?_
    obtain ⟨s2, hs2, h⟩ := hq_bind h
    refine hq_iastore rfl rfl List.length_replicate hs2 ?_
    refine hq_p 1 22 [some (.ref 163), some (.int a1), some (.int a2), some (.int a3), some (.int a4)] [.ref 163] (fun n h => rfl) ?_
    refine hq_gf (x := .ref 165) rfl rfl rfl rfl rfl ?_
    refine hq_p 1 26 [some (.ref 163), some (.int a1), some (.int a2), some (.int a3), some (.int a4)] [.ref 163, .ref 165] (fun n h => rfl) ?_
    refine hq_gf (x := .int (hq_gi s2 163 0)) rfl rfl rfl rfl rfl ?_
    refine hq_p 1 30 [some (.ref 163), some (.int a1), some (.int a2), some (.int a3), some (.int a4)] [.int a2, .int (hq_gi s2 163 0), .ref 165] (fun n h => rfl) ?_
    obtain ⟨s3, hs3, h⟩ := hq_bind h
    refine hq_iastore rfl rfl List.length_replicate hs3 ?_
    refine hq_p 1 32 [some (.ref 163), some (.int a1), some (.int a2), some (.int a3), some (.int a4)] [.ref 163] (fun n h => rfl) ?_
    refine hq_gf (x := .ref 166) rfl rfl rfl rfl rfl ?_
    refine hq_p 1 36 [some (.ref 163), some (.int a1), some (.int a2), some (.int a3), some (.int a4)] [.ref 163, .ref 166] (fun n h => rfl) ?_
    refine hq_gf (x := .int (hq_gi s3 163 0)) rfl rfl rfl rfl rfl ?_
    refine hq_p 1 40 [some (.ref 163), some (.int a1), some (.int a2), some (.int a3), some (.int a4)] [.int a3, .int (hq_gi s3 163 0), .ref 166] (fun n h => rfl) ?_
    obtain ⟨s4, hs4, h⟩ := hq_bind h
    refine hq_iastore rfl rfl List.length_replicate hs4 ?_
    refine hq_p 1 42 [some (.ref 163), some (.int a1), some (.int a2), some (.int a3), some (.int a4)] [.ref 163] (fun n h => rfl) ?_
    refine hq_gf (x := .ref 167) rfl rfl rfl rfl rfl ?_
    refine hq_p 1 46 [some (.ref 163), some (.int a1), some (.int a2), some (.int a3), some (.int a4)] [.ref 163, .ref 167] (fun n h => rfl) ?_
    refine hq_gf (x := .int (hq_gi s4 163 0)) rfl rfl rfl rfl rfl ?_
    refine hq_p 1 51 [some (.ref 163), some (.int a1), some (.int a2), some (.int a3), some (.int a4)] [.int a4, .int (hq_gi s4 163 0), .ref 167] (fun n h => rfl) ?_
    obtain ⟨s5, hs5, h⟩ := hq_bind h
    refine hq_bastore rfl rfl (by decide) List.length_replicate hs5 ?_
    refine hq_p 1 53 [some (.ref 163), some (.int a1), some (.int a2), some (.int a3), some (.int a4)] [.ref 163] (fun n h => rfl) ?_
    refine hq_gf (x := .ref 168) rfl rfl rfl rfl rfl ?_
    refine hq_p 1 57 [some (.ref 163), some (.int a1), some (.int a2), some (.int a3), some (.int a4)] [.ref 163, .ref 168] (fun n h => rfl) ?_
    refine hq_gf (x := .int (hq_gi s5 163 0)) rfl rfl rfl rfl rfl ?_
    refine hq_icn (-1 : Int32) rfl (by decide) ?_
    obtain ⟨s6, hs6, h⟩ := hq_bind h
    refine hq_iastore rfl rfl List.length_replicate hs6 ?_
    refine hq_p 2 64 [some (.ref 163), some (.int a1), some (.int a2), some (.int a3), some (.int a4)] [.ref 163, .ref 163] (fun n h => rfl) ?_
    refine hq_gf (x := .int (hq_gi s6 163 0)) rfl rfl rfl rfl rfl ?_
    refine hq_p 2 69 [some (.ref 163), some (.int a1), some (.int a2), some (.int a3), some (.int a4)] [.int ((hq_gi s6 163 0) + (1 : Int32)), .ref 163] (fun n h => rfl) ?_
    obtain ⟨s7, hs7, h⟩ := hq_bind h
    refine hq_pfi rfl rfl rfl rfl rfl hs7 ?_
    refine hq_p 1 73 [some (.ref 163), some (.int a1), some (.int a2), some (.int a3), some (.int a4)] [.ref 163] (fun n h => rfl) ?_
    refine hq_gf (x := .int (hq_gi s7 163 0)) rfl rfl rfl rfl rfl ?_
    refine hq_p 2 78 [some (.ref 163), some (.int a1), some (.int a2), some (.int a3), some (.int a4)] [.int ((hq_gi s7 163 0) - (1 : Int32))] (fun n h => rfl) ?_
    have h := Option.some.inj h
    subst h
    exact ⟨1, rfl⟩
  · rw [if_neg c1] at h
    refine hq_icF rfl (hq_c_lt_F c1) ?_
    refine hq_icn (-1 : Int32) rfl (by decide) ?_
    have h := Option.some.inj h
    subst h
    exact ⟨1, rfl⟩
def f_X2_addStrike (n : Nat) (a1 : Int32) (s : hq_S) : Option (Int32 × hq_S) := if a1 < 0 then some ((-1 : Int32), s) else if a1 < (hq_gi s 163 0) then if (hq_gi s 163 0) < (24 : Int32) then (hq_st s 168 24 (hq_gi s 163 0) a1).bind fun s4 => (hq_pi s4 163 0 0 ((hq_gi s4 163 0) + (1 : Int32))).bind fun s5 => some (((hq_gi s5 163 0) - (1 : Int32)), s5) else some ((-1 : Int32), s) else some ((-1 : Int32), s)
theorem f_X2_addStrike_run {xs : List Int32} {n d g : Nat} {a1 : Int32} {s : hq_S} {y : (Int32 × hq_S)} (hd : 0 ≤ d) (h : f_X2_addStrike n a1 s = some y) : hq_R (mm_O xs) d mc_X2_addStrike 0 [some (.ref 163), some (.int a1)] [] s g (some (.int y.1)) y.2 := by
  unfold f_X2_addStrike at h
  refine hq_p 1 1 [some (.ref 163), some (.int a1)] [.int a1] (fun n h => rfl) ?_
  by_cases c1 : a1 < 0
  · rw [if_pos c1] at h
    refine hq_izT rfl (hq_c_lt_T c1) ?_
    refine hq_icn (-1 : Int32) rfl (by decide) ?_
    have h := Option.some.inj h
    subst h
    exact ⟨1, rfl⟩
  · rw [if_neg c1] at h
    refine hq_izF rfl (hq_c_lt_F c1) ?_
    refine hq_p 2 6 [some (.ref 163), some (.int a1)] [.ref 163, .int a1] (fun n h => rfl) ?_
    refine hq_gf (x := .int (hq_gi s 163 0)) rfl rfl rfl rfl rfl ?_
    by_cases c2 : a1 < (hq_gi s 163 0)
    · rw [if_pos c2] at h
      refine hq_icF rfl (hq_c_ge_F c2) ?_
      refine hq_p 1 13 [some (.ref 163), some (.int a1)] [.ref 163] (fun n h => rfl) ?_
      refine hq_gf (x := .int (hq_gi s 163 0)) rfl rfl rfl rfl rfl ?_
      refine hq_bip (24 : Int32) rfl (by decide) ?_
      by_cases c3 : (hq_gi s 163 0) < (24 : Int32)
      · rw [if_pos c3] at h
        refine hq_icT rfl (hq_c_lt_T c3) ?_
        refine hq_p 1 24 [some (.ref 163), some (.int a1)] [.ref 163] (fun n h => rfl) ?_
        refine hq_gf (x := .ref 168) rfl rfl rfl rfl rfl ?_
        refine hq_p 1 28 [some (.ref 163), some (.int a1)] [.ref 163, .ref 168] (fun n h => rfl) ?_
        refine hq_gf (x := .int (hq_gi s 163 0)) rfl rfl rfl rfl rfl ?_
        refine hq_p 1 32 [some (.ref 163), some (.int a1)] [.int a1, .int (hq_gi s 163 0), .ref 168] (fun n h => rfl) ?_
        obtain ⟨s4, hs4, h⟩ := hq_bind h
        refine hq_iastore rfl rfl List.length_replicate hs4 ?_
        refine hq_p 2 35 [some (.ref 163), some (.int a1)] [.ref 163, .ref 163] (fun n h => rfl) ?_
        refine hq_gf (x := .int (hq_gi s4 163 0)) rfl rfl rfl rfl rfl ?_
        refine hq_p 2 40 [some (.ref 163), some (.int a1)] [.int ((hq_gi s4 163 0) + (1 : Int32)), .ref 163] (fun n h => rfl) ?_
        obtain ⟨s5, hs5, h⟩ := hq_bind h
        refine hq_pfi rfl rfl rfl rfl rfl hs5 ?_
        refine hq_p 1 44 [some (.ref 163), some (.int a1)] [.ref 163] (fun n h => rfl) ?_
        refine hq_gf (x := .int (hq_gi s5 163 0)) rfl rfl rfl rfl rfl ?_
        refine hq_p 2 49 [some (.ref 163), some (.int a1)] [.int ((hq_gi s5 163 0) - (1 : Int32))] (fun n h => rfl) ?_
        have h := Option.some.inj h
        subst h
        exact ⟨1, rfl⟩
      · rw [if_neg c3] at h
        refine hq_icF rfl (hq_c_lt_F c3) ?_
        refine hq_icn (-1 : Int32) rfl (by decide) ?_
        have h := Option.some.inj h
        subst h
        exact ⟨1, rfl⟩
    · rw [if_neg c2] at h
      refine hq_icT rfl (hq_c_ge_T c2) ?_
      refine hq_icn (-1 : Int32) rfl (by decide) ?_
      have h := Option.some.inj h
      subst h
      exact ⟨1, rfl⟩
def f_X2_standing_L11_B (n : Nat) (q11 : Int32 → Int32 → Int32 → hq_S → Option (Int32 × hq_S)) (a1 : Int32) (a2 : Int32) (a3 : Int32) (s : hq_S) : Option (Int32 × hq_S) := if a3 < 0 then some (a2, s) else (if ((a1 >>> (a3 &&& 31)) &&& (1 : Int32)) = (1 : Int32) then some (a1, a2) else (hq_ld s 168 24 a3).bind fun x5 => if x5 = (-1 : Int32) then some (a1, (a2 ||| ((1 : Int32) <<< (a3 &&& 31)))) else (hq_ld s 168 24 a3).bind fun x7 => some ((a1 ||| ((1 : Int32) <<< (x7 &&& 31))), a2)).bind fun z3 => q11 z3.1 z3.2 (a3 + Int32.ofInt (-1)) s
def f_X2_standing_L11 (n : Nat) (m : Nat) : Int32 → Int32 → Int32 → hq_S → Option (Int32 × hq_S) := Nat.rec (fun _ _ _ _ => none) (fun _ q => f_X2_standing_L11_B n q) m
theorem f_X2_standing_L11_Brun {xs : List Int32} {n d g : Nat} {a1 : Int32} {a2 : Int32} {a3 : Int32} {q11 : Int32 → Int32 → Int32 → hq_S → Option (Int32 × hq_S)} {s : hq_S} {y : (Int32 × hq_S)} (hd : 1 ≤ d) (e11 : ∀ (a1 : Int32) (a2 : Int32) (a3 : Int32) (s : hq_S), q11 a1 a2 a3 s = some y → hq_R (mm_O xs) d mc_X2_standing 11 [some (.ref 163), some (.int a1), some (.int a2), some (.int a3)] [] s g (some (.int y.1)) y.2) (h : f_X2_standing_L11_B n q11 a1 a2 a3 s = some y) : hq_R (mm_O xs) d mc_X2_standing 11 [some (.ref 163), some (.int a1), some (.int a2), some (.int a3)] [] s g (some (.int y.1)) y.2 := by
  unfold f_X2_standing_L11_B at h
  refine hq_p 1 12 [some (.ref 163), some (.int a1), some (.int a2), some (.int a3)] [.int a3] (fun n h => rfl) ?_
  by_cases c2 : a3 < 0
  · rw [if_pos c2] at h
    refine hq_izT rfl (hq_c_lt_T c2) ?_
    refine hq_p 1 64 [some (.ref 163), some (.int a1), some (.int a2), some (.int a3)] [.int a2] (fun n h => rfl) ?_
    have h := Option.some.inj h
    subst h
    exact ⟨1, rfl⟩
  · rw [if_neg c2] at h
    refine hq_izF rfl (hq_c_lt_F c2) ?_
    refine hq_p 6 21 [some (.ref 163), some (.int a1), some (.int a2), some (.int a3)] [.int (1 : Int32), .int ((a1 >>> (a3 &&& 31)) &&& (1 : Int32))] (fun n h => rfl) ?_
    obtain ⟨z3, hz3, h⟩ := hq_bind h
    suffices hT : hq_R (mm_O xs) d mc_X2_standing 57 [some (.ref 163), some (.int z3.1), some (.int z3.2), some (.int a3)] [] s g (some (.int y.1)) y.2 from by
      clear h
      have h := hz3
      by_cases c4 : ((a1 >>> (a3 &&& 31)) &&& (1 : Int32)) = (1 : Int32)
      · rw [if_pos c4] at h
        refine hq_icF rfl (hq_c_ne_F c4) ?_
        refine hq_p 1 57 [some (.ref 163), some (.int a1), some (.int a2), some (.int a3)] [] (fun n h => rfl) ?_
        cases h
        exact hT
      · rw [if_neg c4] at h
        refine hq_icT rfl (hq_c_ne_T c4) ?_
        refine hq_p 1 28 [some (.ref 163), some (.int a1), some (.int a2), some (.int a3)] [.ref 163] (fun n h => rfl) ?_
        refine hq_gf (x := .ref 168) rfl rfl rfl rfl rfl ?_
        refine hq_p 1 32 [some (.ref 163), some (.int a1), some (.int a2), some (.int a3)] [.int a3, .ref 168] (fun n h => rfl) ?_
        obtain ⟨x5, hx5, h⟩ := hq_bind h
        refine hq_iaload rfl rfl List.length_replicate hx5 ?_
        refine hq_icn (-1 : Int32) rfl (by decide) ?_
        by_cases c6 : x5 = (-1 : Int32)
        · rw [if_pos c6] at h
          refine hq_icF rfl (hq_c_ne_F c6) ?_
          refine hq_p 7 57 [some (.ref 163), some (.int a1), some (.int (a2 ||| ((1 : Int32) <<< (a3 &&& 31)))), some (.int a3)] [] (fun n h => rfl) ?_
          cases h
          exact hT
        · rw [if_neg c6] at h
          refine hq_icT rfl (hq_c_ne_T c6) ?_
          refine hq_p 3 49 [some (.ref 163), some (.int a1), some (.int a2), some (.int a3)] [.ref 163, .int (1 : Int32), .int a1] (fun n h => rfl) ?_
          refine hq_gf (x := .ref 168) rfl rfl rfl rfl rfl ?_
          refine hq_p 1 53 [some (.ref 163), some (.int a1), some (.int a2), some (.int a3)] [.int a3, .ref 168, .int (1 : Int32), .int a1] (fun n h => rfl) ?_
          obtain ⟨x7, hx7, h⟩ := hq_bind h
          refine hq_iaload rfl rfl List.length_replicate hx7 ?_
          refine hq_p 3 57 [some (.ref 163), some (.int (a1 ||| ((1 : Int32) <<< (x7 &&& 31)))), some (.int a2), some (.int a3)] [] (fun n h => rfl) ?_
          cases h
          exact hT
    refine hq_iinc (a3 + Int32.ofInt (-1)) [some (.ref 163), some (.int z3.1), some (.int z3.2), some (.int (a3 + Int32.ofInt (-1)))] rfl rfl rfl rfl ?_
    refine hq_p 1 11 [some (.ref 163), some (.int z3.1), some (.int z3.2), some (.int (a3 + Int32.ofInt (-1)))] [] (fun n h => rfl) ?_
    exact e11 z3.1 z3.2 (a3 + Int32.ofInt (-1)) s h
theorem f_X2_standing_L11_run {xs : List Int32} {n m d g : Nat} {a1 : Int32} {a2 : Int32} {a3 : Int32} {s : hq_S} {y : (Int32 × hq_S)} (hd : 1 ≤ d) (h : f_X2_standing_L11 n m a1 a2 a3 s = some y) : hq_R (mm_O xs) d mc_X2_standing 11 [some (.ref 163), some (.int a1), some (.int a2), some (.int a3)] [] s g (some (.int y.1)) y.2 := by
  induction m generalizing a1 a2 a3 s with
  | zero => cases h
  | succ m ih => exact f_X2_standing_L11_Brun (n := n) hd (fun a1 a2 a3 s h => ih h) h
def f_X2_standing (n : Nat) (s : hq_S) : Option (Int32 × hq_S) := (f_X2_knownBy n s).bind fun y1 => f_X2_standing_L11 n n (0 : Int32) (0 : Int32) (y1.1 - (1 : Int32)) y1.2
theorem f_X2_standing_run {xs : List Int32} {n d g : Nat} {s : hq_S} {y : (Int32 × hq_S)} (hd : 1 ≤ d) (h : f_X2_standing n s = some y) : hq_R (mm_O xs) d mc_X2_standing 0 [some (.ref 163), none, none, none] [] s g (some (.int y.1)) y.2 := by
  unfold f_X2_standing at h
  refine hq_p 5 5 [some (.ref 163), some (.int (0 : Int32)), some (.int (0 : Int32)), none] [.ref 163] (fun n h => rfl) ?_
  obtain ⟨y1, hy1, h⟩ := hq_bind h
  refine hq_inv rfl rfl (Nat.le_trans (by decide) hd) rfl rfl (hq_rcv rfl rfl) (f_X2_knownBy_run (Nat.le_sub_of_add_le (Nat.le_trans (by decide) hd)) hy1) rfl ?_
  refine hq_p 3 11 [some (.ref 163), some (.int (0 : Int32)), some (.int (0 : Int32)), some (.int (y1.1 - (1 : Int32)))] [] (fun n h => rfl) ?_
  exact f_X2_standing_L11_run hd h
def f_X5_copyFrom (n : Nat) (k0 : Nat) (k1 : Nat) (s : hq_S) : Option hq_S := (hq_pi s k0 0 0 (hq_gi s k1 0)).bind fun s1 => (hq_pj s1 k0 1 (hq_gj s1 k1 1)).bind fun s2 => (hq_pi s2 k0 2 0 (hq_gi s2 k1 2)).bind fun s3 => (hq_cp s3 (k1 + 1) 10 (k0 + 1) 10 (0 : Int32) (0 : Int32) (10 : Int32)).bind fun s4 => (hq_cp s4 (k1 + 2) 3 (k0 + 2) 3 (0 : Int32) (0 : Int32) (3 : Int32)).bind fun s5 => (hq_cp s5 (k1 + 3) 3 (k0 + 3) 3 (0 : Int32) (0 : Int32) (3 : Int32)).bind fun s6 => (hq_cp s6 (k1 + 4) 3 (k0 + 4) 3 (0 : Int32) (0 : Int32) (3 : Int32)).bind fun s7 => (hq_cp s7 (k1 + 5) 4 (k0 + 5) 4 (0 : Int32) (0 : Int32) (4 : Int32)).bind fun s8 => (hq_cp s8 (k1 + 6) 4 (k0 + 6) 4 (0 : Int32) (0 : Int32) (4 : Int32)).bind fun s9 => (hq_cp s9 (k1 + 7) 4 (k0 + 7) 4 (0 : Int32) (0 : Int32) (4 : Int32)).bind fun s10 => (hq_cp s10 (k1 + 8) 4 (k0 + 8) 4 (0 : Int32) (0 : Int32) (4 : Int32)).bind fun s11 => some s11
theorem f_X5_copyFrom_run {xs : List Int32} {n d g : Nat} {k0 : Nat} {k1 : Nat} {s : hq_S} {y : hq_S} (hd : 1 ≤ d) (m0_ : hq_isN k0) (m1_ : hq_isN k1) (h : f_X5_copyFrom n k0 k1 s = some y) : hq_R (mm_O xs) d mc_X5_copyFrom 0 [some (.ref k0), some (.ref k1)] [] s g none y := by
  unfold f_X5_copyFrom at h
  refine hq_p 2 2 [some (.ref k0), some (.ref k1)] [.ref k1, .ref k0] (fun n h => rfl) ?_
  refine hq_gf (x := .int (hq_gi s k1 0)) rfl (hq_shN m1_) rfl rfl rfl ?_
  obtain ⟨s1, hs1, h⟩ := hq_bind h
  refine hq_pfi rfl (hq_shN m0_) rfl rfl rfl hs1 ?_
  refine hq_p 2 10 [some (.ref k0), some (.ref k1)] [.ref k1, .ref k0] (fun n h => rfl) ?_
  refine hq_gf (x := .long (hq_gj s1 k1 1)) rfl (hq_shN m1_) rfl rfl rfl ?_
  obtain ⟨s2, hs2, h⟩ := hq_bind h
  refine hq_pfj rfl (hq_shN m0_) rfl rfl rfl hs2 ?_
  refine hq_p 2 18 [some (.ref k0), some (.ref k1)] [.ref k1, .ref k0] (fun n h => rfl) ?_
  refine hq_gf (x := .int (hq_gi s2 k1 2)) rfl (hq_shN m1_) rfl rfl rfl ?_
  obtain ⟨s3, hs3, h⟩ := hq_bind h
  refine hq_pfi rfl (hq_shN m0_) rfl rfl rfl hs3 ?_
  refine hq_p 1 25 [some (.ref k0), some (.ref k1)] [.ref k1] (fun n h => rfl) ?_
  refine hq_gf (x := .ref (k1 + 1)) rfl (hq_shN m1_) rfl rfl (hq_fldr (hq_shN_u m1_)) ?_
  refine hq_p 2 30 [some (.ref k0), some (.ref k1)] [.ref k0, .int (0 : Int32), .ref (k1 + 1)] (fun n h => rfl) ?_
  refine hq_gf (x := .ref (k0 + 1)) rfl (hq_shN m0_) rfl rfl (hq_fldr (hq_shN_u m0_)) ?_
  refine hq_p 2 36 [some (.ref k0), some (.ref k1)] [.int (10 : Int32), .int (0 : Int32), .ref (k0 + 1), .int (0 : Int32), .ref (k1 + 1)] (fun n h => rfl) ?_
  obtain ⟨s4, hs4, h⟩ := hq_bind h
  refine hq_copy_ rfl (hq_shN_1 m1_) List.length_replicate (hq_shN_1 m0_) List.length_replicate hs4 rfl (Nat.le_trans (by decide) hd) ?_
  refine hq_p 1 40 [some (.ref k0), some (.ref k1)] [.ref k1] (fun n h => rfl) ?_
  refine hq_gf (x := .ref (k1 + 2)) rfl (hq_shN m1_) rfl rfl (hq_fldr (hq_shN_u m1_)) ?_
  refine hq_p 2 45 [some (.ref k0), some (.ref k1)] [.ref k0, .int (0 : Int32), .ref (k1 + 2)] (fun n h => rfl) ?_
  refine hq_gf (x := .ref (k0 + 2)) rfl (hq_shN m0_) rfl rfl (hq_fldr (hq_shN_u m0_)) ?_
  refine hq_p 2 50 [some (.ref k0), some (.ref k1)] [.int (3 : Int32), .int (0 : Int32), .ref (k0 + 2), .int (0 : Int32), .ref (k1 + 2)] (fun n h => rfl) ?_
  obtain ⟨s5, hs5, h⟩ := hq_bind h
  refine hq_copy_ rfl (hq_shN_2 m1_) List.length_replicate (hq_shN_2 m0_) List.length_replicate hs5 rfl (Nat.le_trans (by decide) hd) ?_
  refine hq_p 1 54 [some (.ref k0), some (.ref k1)] [.ref k1] (fun n h => rfl) ?_
  refine hq_gf (x := .ref (k1 + 3)) rfl (hq_shN m1_) rfl rfl (hq_fldr (hq_shN_u m1_)) ?_
  refine hq_p 2 59 [some (.ref k0), some (.ref k1)] [.ref k0, .int (0 : Int32), .ref (k1 + 3)] (fun n h => rfl) ?_
  refine hq_gf (x := .ref (k0 + 3)) rfl (hq_shN m0_) rfl rfl (hq_fldr (hq_shN_u m0_)) ?_
  refine hq_p 2 64 [some (.ref k0), some (.ref k1)] [.int (3 : Int32), .int (0 : Int32), .ref (k0 + 3), .int (0 : Int32), .ref (k1 + 3)] (fun n h => rfl) ?_
  obtain ⟨s6, hs6, h⟩ := hq_bind h
  refine hq_copy_ rfl (hq_shN_3 m1_) List.length_replicate (hq_shN_3 m0_) List.length_replicate hs6 rfl (Nat.le_trans (by decide) hd) ?_
  refine hq_p 1 68 [some (.ref k0), some (.ref k1)] [.ref k1] (fun n h => rfl) ?_
  refine hq_gf (x := .ref (k1 + 4)) rfl (hq_shN m1_) rfl rfl (hq_fldr (hq_shN_u m1_)) ?_
  refine hq_p 2 73 [some (.ref k0), some (.ref k1)] [.ref k0, .int (0 : Int32), .ref (k1 + 4)] (fun n h => rfl) ?_
  refine hq_gf (x := .ref (k0 + 4)) rfl (hq_shN m0_) rfl rfl (hq_fldr (hq_shN_u m0_)) ?_
  refine hq_p 2 78 [some (.ref k0), some (.ref k1)] [.int (3 : Int32), .int (0 : Int32), .ref (k0 + 4), .int (0 : Int32), .ref (k1 + 4)] (fun n h => rfl) ?_
  obtain ⟨s7, hs7, h⟩ := hq_bind h
  refine hq_copy_ rfl (hq_shN_4 m1_) List.length_replicate (hq_shN_4 m0_) List.length_replicate hs7 rfl (Nat.le_trans (by decide) hd) ?_
  refine hq_p 1 82 [some (.ref k0), some (.ref k1)] [.ref k1] (fun n h => rfl) ?_
  refine hq_gf (x := .ref (k1 + 5)) rfl (hq_shN m1_) rfl rfl (hq_fldr (hq_shN_u m1_)) ?_
  refine hq_p 2 87 [some (.ref k0), some (.ref k1)] [.ref k0, .int (0 : Int32), .ref (k1 + 5)] (fun n h => rfl) ?_
  refine hq_gf (x := .ref (k0 + 5)) rfl (hq_shN m0_) rfl rfl (hq_fldr (hq_shN_u m0_)) ?_
  refine hq_p 2 92 [some (.ref k0), some (.ref k1)] [.int (4 : Int32), .int (0 : Int32), .ref (k0 + 5), .int (0 : Int32), .ref (k1 + 5)] (fun n h => rfl) ?_
  obtain ⟨s8, hs8, h⟩ := hq_bind h
  refine hq_copy_ rfl (hq_shN_5 m1_) List.length_replicate (hq_shN_5 m0_) List.length_replicate hs8 rfl (Nat.le_trans (by decide) hd) ?_
  refine hq_p 1 96 [some (.ref k0), some (.ref k1)] [.ref k1] (fun n h => rfl) ?_
  refine hq_gf (x := .ref (k1 + 6)) rfl (hq_shN m1_) rfl rfl (hq_fldr (hq_shN_u m1_)) ?_
  refine hq_p 2 101 [some (.ref k0), some (.ref k1)] [.ref k0, .int (0 : Int32), .ref (k1 + 6)] (fun n h => rfl) ?_
  refine hq_gf (x := .ref (k0 + 6)) rfl (hq_shN m0_) rfl rfl (hq_fldr (hq_shN_u m0_)) ?_
  refine hq_p 2 106 [some (.ref k0), some (.ref k1)] [.int (4 : Int32), .int (0 : Int32), .ref (k0 + 6), .int (0 : Int32), .ref (k1 + 6)] (fun n h => rfl) ?_
  obtain ⟨s9, hs9, h⟩ := hq_bind h
  refine hq_copy_ rfl (hq_shN_6 m1_) List.length_replicate (hq_shN_6 m0_) List.length_replicate hs9 rfl (Nat.le_trans (by decide) hd) ?_
  refine hq_p 1 110 [some (.ref k0), some (.ref k1)] [.ref k1] (fun n h => rfl) ?_
  refine hq_gf (x := .ref (k1 + 7)) rfl (hq_shN m1_) rfl rfl (hq_fldr (hq_shN_u m1_)) ?_
  refine hq_p 2 115 [some (.ref k0), some (.ref k1)] [.ref k0, .int (0 : Int32), .ref (k1 + 7)] (fun n h => rfl) ?_
  refine hq_gf (x := .ref (k0 + 7)) rfl (hq_shN m0_) rfl rfl (hq_fldr (hq_shN_u m0_)) ?_
  refine hq_p 2 120 [some (.ref k0), some (.ref k1)] [.int (4 : Int32), .int (0 : Int32), .ref (k0 + 7), .int (0 : Int32), .ref (k1 + 7)] (fun n h => rfl) ?_
  obtain ⟨s10, hs10, h⟩ := hq_bind h
  refine hq_copy_ rfl (hq_shN_7 m1_) List.length_replicate (hq_shN_7 m0_) List.length_replicate hs10 rfl (Nat.le_trans (by decide) hd) ?_
  refine hq_p 1 124 [some (.ref k0), some (.ref k1)] [.ref k1] (fun n h => rfl) ?_
  refine hq_gf (x := .ref (k1 + 8)) rfl (hq_shN m1_) rfl rfl (hq_fldr (hq_shN_u m1_)) ?_
  refine hq_p 2 129 [some (.ref k0), some (.ref k1)] [.ref k0, .int (0 : Int32), .ref (k1 + 8)] (fun n h => rfl) ?_
  refine hq_gf (x := .ref (k0 + 8)) rfl (hq_shN m0_) rfl rfl (hq_fldr (hq_shN_u m0_)) ?_
  refine hq_p 2 134 [some (.ref k0), some (.ref k1)] [.int (4 : Int32), .int (0 : Int32), .ref (k0 + 8), .int (0 : Int32), .ref (k1 + 8)] (fun n h => rfl) ?_
  obtain ⟨s11, hs11, h⟩ := hq_bind h
  refine hq_copy_ rfl (hq_shN_8 m1_) List.length_replicate (hq_shN_8 m0_) List.length_replicate hs11 rfl (Nat.le_trans (by decide) hd) ?_
  have h := Option.some.inj h
  subst h
  exact ⟨1, rfl⟩
def f_X3_restart (n : Nat) (k1 : Nat) (a2 : Int32) (a3 : Int32) (s : hq_S) : Option hq_S := if hq_isN (hq_gr s 113 2) then (f_X5_copyFrom n (hq_gr s 113 2) k1 s).bind fun s2 => if hq_isN (hq_gr s2 113 2) then (hq_st s2 ((hq_gr s2 113 2) + 6) 4 a2 a3).bind fun s4 => some s4 else none else none
theorem f_X3_restart_run {xs : List Int32} {n d g : Nat} {k1 : Nat} {a2 : Int32} {a3 : Int32} {s : hq_S} {y : hq_S} (hd : 2 ≤ d) (m1_ : hq_isN k1) (h : f_X3_restart n k1 a2 a3 s = some y) : hq_R (mm_O xs) d mc_X3_restart 0 [some (.ref 113), some (.ref k1), some (.int a2), some (.int a3)] [] s g none y := by
  unfold f_X3_restart at h
  refine hq_p 1 1 [some (.ref 113), some (.ref k1), some (.int a2), some (.int a3)] [.ref 113] (fun n h => rfl) ?_
  refine hq_gf (x := .ref (hq_gr s 113 2)) rfl rfl rfl rfl rfl ?_
  have m1 : hq_isN (hq_gr s 113 2) := hq_ifT h
  rw [if_pos m1] at h
  refine hq_p 1 5 [some (.ref 113), some (.ref k1), some (.int a2), some (.int a3)] [.ref k1, .ref (hq_gr s 113 2)] (fun n h => rfl) ?_
  obtain ⟨s2, hs2, h⟩ := hq_bind h
  refine hq_inv rfl rfl (Nat.le_trans (by decide) hd) rfl rfl (hq_rcv (hq_shN m1) rfl) (f_X5_copyFrom_run (Nat.le_sub_of_add_le (Nat.le_trans (by decide) hd)) m1 m1_ hs2) rfl ?_
  refine hq_p 1 9 [some (.ref 113), some (.ref k1), some (.int a2), some (.int a3)] [.ref 113] (fun n h => rfl) ?_
  refine hq_gf (x := .ref (hq_gr s2 113 2)) rfl rfl rfl rfl rfl ?_
  have m3 : hq_isN (hq_gr s2 113 2) := hq_ifT h
  rw [if_pos m3] at h
  refine hq_gf (x := .ref ((hq_gr s2 113 2) + 6)) rfl (hq_shN m3) rfl rfl (hq_fldr (hq_shN_u m3)) ?_
  refine hq_p 2 17 [some (.ref 113), some (.ref k1), some (.int a2), some (.int a3)] [.int a3, .int a2, .ref ((hq_gr s2 113 2) + 6)] (fun n h => rfl) ?_
  obtain ⟨s4, hs4, h⟩ := hq_bind h
  refine hq_iastore rfl (hq_shN_6 m3) List.length_replicate hs4 ?_
  have h := Option.some.inj h
  subst h
  exact ⟨1, rfl⟩
def f_X8_lanesBetween (n : Nat) (k0 : Nat) (a1 : Int32) (a2 : Int32) (s : hq_S) : Option (Int32 × hq_S) := (hq_ld s (k0 + 2) 100 ((a1 * (10 : Int32)) + a2)).bind fun x1 => some (x1, s)
theorem f_X8_lanesBetween_run {xs : List Int32} {n d g : Nat} {k0 : Nat} {a1 : Int32} {a2 : Int32} {s : hq_S} {y : (Int32 × hq_S)} (hd : 0 ≤ d) (m0_ : hq_isS k0) (h : f_X8_lanesBetween n k0 a1 a2 s = some y) : hq_R (mm_O xs) d mc_X8_lanesBetween 0 [some (.ref k0), some (.int a1), some (.int a2)] [] s g (some (.int y.1)) y.2 := by
  unfold f_X8_lanesBetween at h
  refine hq_p 1 1 [some (.ref k0), some (.int a1), some (.int a2)] [.ref k0] (fun n h => rfl) ?_
  refine hq_gf (x := .ref (k0 + 2)) rfl (hq_shS m0_) rfl rfl (hq_fldr (hq_shS_u m0_)) ?_
  refine hq_p 5 10 [some (.ref k0), some (.int a1), some (.int a2)] [.int ((a1 * (10 : Int32)) + a2), .ref (k0 + 2)] (fun n h => rfl) ?_
  obtain ⟨x1, hx1, h⟩ := hq_bind h
  refine hq_iaload rfl (hq_shS_2 m0_) List.length_replicate hx1 ?_
  have h := Option.some.inj h
  subst h
  exact ⟨1, rfl⟩
def f_X8_onward_J41 (n : Nat) (q2 : Nat → Int32 → Int32 → Int32 → hq_S → Option (Int32 × hq_S)) (k0 : Nat) (a1 : Int32) (a2 : Int32) (a3 : Int32) (s : hq_S) : Option (Int32 × hq_S) := q2 k0 a1 a2 (a3 + (1 : Int32)) s
theorem f_X8_onward_J41_run {xs : List Int32} {n d g : Nat} {k0 : Nat} {a1 : Int32} {a2 : Int32} {a3 : Int32} {q2 : Nat → Int32 → Int32 → Int32 → hq_S → Option (Int32 × hq_S)} {s : hq_S} {y : (Int32 × hq_S)} (hd : 1 ≤ d) (e2 : ∀ (k0 : Nat) (a1 : Int32) (a2 : Int32) (a3 : Int32) (s : hq_S) (m0_ : hq_isS k0), q2 k0 a1 a2 a3 s = some y → hq_R (mm_O xs) d mc_X8_onward 2 [some (.ref k0), some (.int a1), some (.int a2), some (.int a3)] [] s g (some (.int y.1)) y.2) (m0_ : hq_isS k0) (h : f_X8_onward_J41 n q2 k0 a1 a2 a3 s = some y) : hq_R (mm_O xs) d mc_X8_onward 41 [some (.ref k0), some (.int a1), some (.int a2), some (.int a3)] [] s g (some (.int y.1)) y.2 := by
  unfold f_X8_onward_J41 at h
  refine hq_p 2 2 [some (.ref k0), some (.int a1), some (.int a2), some (.int (a3 + (1 : Int32)))] [] (fun n h => rfl) ?_
  exact e2 k0 a1 a2 (a3 + (1 : Int32)) s m0_ h
def f_X8_onward_L2_B (n : Nat) (q2 : Nat → Int32 → Int32 → Int32 → hq_S → Option (Int32 × hq_S)) (k0 : Nat) (a1 : Int32) (a2 : Int32) (a3 : Int32) (s : hq_S) : Option (Int32 × hq_S) := if a3 < (hq_gi s k0 0) then (hq_ld s (k0 + 1) 10 a1).bind fun x2 => if ((x2 >>> (a3 &&& 31)) &&& (1 : Int32)) = (1 : Int32) then (f_X8_lanesBetween n k0 a3 a2 s).bind fun y4 => (f_X8_lanesBetween n k0 a1 a2 y4.2).bind fun y5 => if y4.1 < y5.1 then some (a3, y5.2) else f_X8_onward_J41 n q2 k0 a1 a2 a3 y5.2 else f_X8_onward_J41 n q2 k0 a1 a2 a3 s else some ((-1 : Int32), s)
def f_X8_onward_L2 (n : Nat) (m : Nat) : Nat → Int32 → Int32 → Int32 → hq_S → Option (Int32 × hq_S) := Nat.rec (fun _ _ _ _ _ => none) (fun _ q => f_X8_onward_L2_B n q) m
theorem f_X8_onward_L2_Brun {xs : List Int32} {n d g : Nat} {k0 : Nat} {a1 : Int32} {a2 : Int32} {a3 : Int32} {q2 : Nat → Int32 → Int32 → Int32 → hq_S → Option (Int32 × hq_S)} {s : hq_S} {y : (Int32 × hq_S)} (hd : 1 ≤ d) (e2 : ∀ (k0 : Nat) (a1 : Int32) (a2 : Int32) (a3 : Int32) (s : hq_S) (m0_ : hq_isS k0), q2 k0 a1 a2 a3 s = some y → hq_R (mm_O xs) d mc_X8_onward 2 [some (.ref k0), some (.int a1), some (.int a2), some (.int a3)] [] s g (some (.int y.1)) y.2) (m0_ : hq_isS k0) (h : f_X8_onward_L2_B n q2 k0 a1 a2 a3 s = some y) : hq_R (mm_O xs) d mc_X8_onward 2 [some (.ref k0), some (.int a1), some (.int a2), some (.int a3)] [] s g (some (.int y.1)) y.2 := by
  unfold f_X8_onward_L2_B at h
  refine hq_p 2 4 [some (.ref k0), some (.int a1), some (.int a2), some (.int a3)] [.ref k0, .int a3] (fun n h => rfl) ?_
  refine hq_gf (x := .int (hq_gi s k0 0)) rfl (hq_shS m0_) rfl rfl rfl ?_
  by_cases c1 : a3 < (hq_gi s k0 0)
  · rw [if_pos c1] at h
    refine hq_icF rfl (hq_c_ge_F c1) ?_
    refine hq_p 1 11 [some (.ref k0), some (.int a1), some (.int a2), some (.int a3)] [.ref k0] (fun n h => rfl) ?_
    refine hq_gf (x := .ref (k0 + 1)) rfl (hq_shS m0_) rfl rfl (hq_fldr (hq_shS_u m0_)) ?_
    refine hq_p 1 15 [some (.ref k0), some (.int a1), some (.int a2), some (.int a3)] [.int a1, .ref (k0 + 1)] (fun n h => rfl) ?_
    obtain ⟨x2, hx2, h⟩ := hq_bind h
    refine hq_iaload rfl (hq_shS_1 m0_) List.length_replicate hx2 ?_
    refine hq_p 5 21 [some (.ref k0), some (.int a1), some (.int a2), some (.int a3)] [.int (1 : Int32), .int ((x2 >>> (a3 &&& 31)) &&& (1 : Int32))] (fun n h => rfl) ?_
    by_cases c3 : ((x2 >>> (a3 &&& 31)) &&& (1 : Int32)) = (1 : Int32)
    · rw [if_pos c3] at h
      refine hq_icF rfl (hq_c_ne_F c3) ?_
      refine hq_p 3 27 [some (.ref k0), some (.int a1), some (.int a2), some (.int a3)] [.int a2, .int a3, .ref k0] (fun n h => rfl) ?_
      obtain ⟨y4, hy4, h⟩ := hq_bind h
      refine hq_inv rfl rfl (Nat.le_trans (by decide) hd) rfl rfl (hq_rcv (hq_shS m0_) rfl) (f_X8_lanesBetween_run (Nat.le_sub_of_add_le (Nat.le_trans (by decide) hd)) m0_ hy4) rfl ?_
      refine hq_p 3 33 [some (.ref k0), some (.int a1), some (.int a2), some (.int a3)] [.int a2, .int a1, .ref k0, .int y4.1] (fun n h => rfl) ?_
      obtain ⟨y5, hy5, h⟩ := hq_bind h
      refine hq_inv rfl rfl (Nat.le_trans (by decide) hd) rfl rfl (hq_rcv (hq_shS m0_) rfl) (f_X8_lanesBetween_run (Nat.le_sub_of_add_le (Nat.le_trans (by decide) hd)) m0_ hy5) rfl ?_
      by_cases c6 : y4.1 < y5.1
      · rw [if_pos c6] at h
        refine hq_icF rfl (hq_c_ge_F c6) ?_
        refine hq_p 1 40 [some (.ref k0), some (.int a1), some (.int a2), some (.int a3)] [.int a3] (fun n h => rfl) ?_
        have h := Option.some.inj h
        subst h
        exact ⟨1, rfl⟩
      · rw [if_neg c6] at h
        refine hq_icT rfl (hq_c_ge_T c6) ?_
        exact f_X8_onward_J41_run hd e2 m0_ h
    · rw [if_neg c3] at h
      refine hq_icT rfl (hq_c_ne_T c3) ?_
      exact f_X8_onward_J41_run hd e2 m0_ h
  · rw [if_neg c1] at h
    refine hq_icT rfl (hq_c_ge_T c1) ?_
    refine hq_icn (-1 : Int32) rfl (by decide) ?_
    have h := Option.some.inj h
    subst h
    exact ⟨1, rfl⟩
theorem f_X8_onward_L2_run {xs : List Int32} {n m d g : Nat} {k0 : Nat} {a1 : Int32} {a2 : Int32} {a3 : Int32} {s : hq_S} {y : (Int32 × hq_S)} (hd : 1 ≤ d) (m0_ : hq_isS k0) (h : f_X8_onward_L2 n m k0 a1 a2 a3 s = some y) : hq_R (mm_O xs) d mc_X8_onward 2 [some (.ref k0), some (.int a1), some (.int a2), some (.int a3)] [] s g (some (.int y.1)) y.2 := by
  induction m generalizing k0 a1 a2 a3 s with
  | zero => cases h
  | succ m ih => exact f_X8_onward_L2_Brun (n := n) hd (fun k0 a1 a2 a3 s m0_ h => ih m0_ h) m0_ h
def f_X8_onward (n : Nat) (k0 : Nat) (a1 : Int32) (a2 : Int32) (s : hq_S) : Option (Int32 × hq_S) := f_X8_onward_L2 n n k0 a1 a2 (0 : Int32) s
theorem f_X8_onward_run {xs : List Int32} {n d g : Nat} {k0 : Nat} {a1 : Int32} {a2 : Int32} {s : hq_S} {y : (Int32 × hq_S)} (hd : 1 ≤ d) (m0_ : hq_isS k0) (h : f_X8_onward n k0 a1 a2 s = some y) : hq_R (mm_O xs) d mc_X8_onward 0 [some (.ref k0), some (.int a1), some (.int a2), none] [] s g (some (.int y.1)) y.2 := by
  unfold f_X8_onward at h
  refine hq_p 2 2 [some (.ref k0), some (.int a1), some (.int a2), some (.int (0 : Int32))] [] (fun n h => rfl) ?_
  exact f_X8_onward_L2_run hd m0_ h
def f_X3_walkBeat_J93 (n : Nat) (a1 : Int32) (a2 : Int32) (s : hq_S) : Option hq_S := if hq_isS (hq_gr s 113 1) then if hq_isT (hq_gr s 113 0) then if hq_isN (hq_gr s 113 2) then (hq_ld s ((hq_gr s 113 2) + 3) 3 a1).bind fun x12 => (hq_ld s ((hq_gr s 113 0) + 6) 24 ((a1 * (8 : Int32)) + x12)).bind fun x13 => (f_X8_onward n (hq_gr s 113 1) a2 x13 s).bind fun y14 => if hq_isN (hq_gr y14.2 113 2) then (if y14.1 = (-1 : Int32) then some a2 else some y14.1).bind fun z16 => (hq_st y14.2 ((hq_gr y14.2 113 2) + 2) 3 a1 z16).bind fun s18 => some s18 else none else none else none else none
theorem f_X3_walkBeat_J93_run {xs : List Int32} {n d g : Nat} {a1 : Int32} {a2 : Int32} {o3 : Option Value} {s : hq_S} {y : hq_S} (hd : 2 ≤ d) (h : f_X3_walkBeat_J93 n a1 a2 s = some y) : hq_R (mm_O xs) d mc_X3_walkBeat 93 [some (.ref 113), some (.int a1), some (.int a2), o3] [] s g none y := by
  unfold f_X3_walkBeat_J93 at h
  refine hq_p 1 94 [some (.ref 113), some (.int a1), some (.int a2), o3] [.ref 113] (fun n h => rfl) ?_
  refine hq_gf (x := .ref (hq_gr s 113 1)) rfl rfl rfl rfl rfl ?_
  have m9 : hq_isS (hq_gr s 113 1) := hq_ifT h
  rw [if_pos m9] at h
  refine hq_p 2 99 [some (.ref 113), some (.int a1), some (.int a2), o3] [.ref 113, .int a2, .ref (hq_gr s 113 1)] (fun n h => rfl) ?_
  refine hq_gf (x := .ref (hq_gr s 113 0)) rfl rfl rfl rfl rfl ?_
  have m10 : hq_isT (hq_gr s 113 0) := hq_ifT h
  rw [if_pos m10] at h
  refine hq_gf (x := .ref ((hq_gr s 113 0) + 6)) rfl (hq_shT m10) rfl rfl (hq_fldr (hq_shT_u m10)) ?_
  refine hq_p 4 110 [some (.ref 113), some (.int a1), some (.int a2), o3] [.ref 113, .int (a1 * (8 : Int32)), .ref ((hq_gr s 113 0) + 6), .int a2, .ref (hq_gr s 113 1)] (fun n h => rfl) ?_
  refine hq_gf (x := .ref (hq_gr s 113 2)) rfl rfl rfl rfl rfl ?_
  have m11 : hq_isN (hq_gr s 113 2) := hq_ifT h
  rw [if_pos m11] at h
  refine hq_gf (x := .ref ((hq_gr s 113 2) + 3)) rfl (hq_shN m11) rfl rfl (hq_fldr (hq_shN_u m11)) ?_
  refine hq_p 1 117 [some (.ref 113), some (.int a1), some (.int a2), o3] [.int a1, .ref ((hq_gr s 113 2) + 3), .int (a1 * (8 : Int32)), .ref ((hq_gr s 113 0) + 6), .int a2, .ref (hq_gr s 113 1)] (fun n h => rfl) ?_
  obtain ⟨x12, hx12, h⟩ := hq_bind h
  refine hq_iaload rfl (hq_shN_3 m11) List.length_replicate hx12 ?_
  refine hq_p 1 119 [some (.ref 113), some (.int a1), some (.int a2), o3] [.int ((a1 * (8 : Int32)) + x12), .ref ((hq_gr s 113 0) + 6), .int a2, .ref (hq_gr s 113 1)] (fun n h => rfl) ?_
  obtain ⟨x13, hx13, h⟩ := hq_bind h
  refine hq_iaload rfl (hq_shT_6 m10) List.length_replicate hx13 ?_
  obtain ⟨y14, hy14, h⟩ := hq_bind h
  refine hq_inv rfl rfl (Nat.le_trans (by decide) hd) rfl rfl (hq_rcv (hq_shS m9) rfl) (f_X8_onward_run (Nat.le_sub_of_add_le (Nat.le_trans (by decide) hd)) m9 hy14) rfl ?_
  refine hq_p 2 125 [some (.ref 113), some (.int a1), some (.int a2), some (.int y14.1)] [.ref 113] (fun n h => rfl) ?_
  refine hq_gf (x := .ref (hq_gr y14.2 113 2)) rfl rfl rfl rfl rfl ?_
  have m15 : hq_isN (hq_gr y14.2 113 2) := hq_ifT h
  rw [if_pos m15] at h
  refine hq_gf (x := .ref ((hq_gr y14.2 113 2) + 2)) rfl (hq_shN m15) rfl rfl (hq_fldr (hq_shN_u m15)) ?_
  refine hq_p 2 133 [some (.ref 113), some (.int a1), some (.int a2), some (.int y14.1)] [.int y14.1, .int a1, .ref ((hq_gr y14.2 113 2) + 2)] (fun n h => rfl) ?_
  refine hq_icn (-1 : Int32) rfl (by decide) ?_
  obtain ⟨z16, hz16, h⟩ := hq_bind h
  suffices hT : hq_R (mm_O xs) d mc_X3_walkBeat 142 [some (.ref 113), some (.int a1), some (.int a2), some (.int y14.1)] [.int z16, .int a1, .ref ((hq_gr y14.2 113 2) + 2)] y14.2 g none y from by
    clear h
    have h := hz16
    by_cases c17 : y14.1 = (-1 : Int32)
    · rw [if_pos c17] at h
      refine hq_icF rfl (hq_c_ne_F c17) ?_
      refine hq_p 2 142 [some (.ref 113), some (.int a1), some (.int a2), some (.int y14.1)] [.int a2, .int a1, .ref ((hq_gr y14.2 113 2) + 2)] (fun n h => rfl) ?_
      cases h
      exact hT
    · rw [if_neg c17] at h
      refine hq_icT rfl (hq_c_ne_T c17) ?_
      refine hq_p 1 142 [some (.ref 113), some (.int a1), some (.int a2), some (.int y14.1)] [.int y14.1, .int a1, .ref ((hq_gr y14.2 113 2) + 2)] (fun n h => rfl) ?_
      cases h
      exact hT
  obtain ⟨s18, hs18, h⟩ := hq_bind h
  refine hq_iastore rfl (hq_shN_2 m15) List.length_replicate hs18 ?_
  have h := Option.some.inj h
  subst h
  exact ⟨1, rfl⟩
def f_X3_walkBeat (n : Nat) (a1 : Int32) (s : hq_S) : Option hq_S := if hq_isN (hq_gr s 113 2) then (hq_ld s ((hq_gr s 113 2) + 2) 3 a1).bind fun x2 => if hq_isT (hq_gr s 113 0) then if hq_isN (hq_gr s 113 2) then (hq_ld s ((hq_gr s 113 2) + 3) 3 a1).bind fun x5 => (hq_ld s ((hq_gr s 113 0) + 6) 24 ((a1 * (8 : Int32)) + x5)).bind fun x6 => if x6 = x2 then if hq_isN (hq_gr s 113 2) then (hq_ld s ((hq_gr s 113 2) + 3) 3 a1).bind fun x20 => if hq_isT (hq_gr s 113 0) then (hq_ld s ((hq_gr s 113 0) + 7) 3 a1).bind fun x22 => (if (x20 + (1 : Int32)) < x22 then some (0 : Int32) else some (1 : Int32)).bind fun z23 => if hq_isN (hq_gr s 113 2) then (if z23 = 0 then if hq_isN (hq_gr s 113 2) then (hq_ld s ((hq_gr s 113 2) + 3) 3 a1).bind fun x29 => some (x29 + (1 : Int32)) else none else some (0 : Int32)).bind fun z26 => (hq_st s ((hq_gr s 113 2) + 3) 3 a1 z26).bind fun s30 => f_X3_walkBeat_J93 n a1 x2 s30 else none else none else none else f_X3_walkBeat_J93 n a1 x2 s else none else none else none
theorem f_X3_walkBeat_run {xs : List Int32} {n d g : Nat} {a1 : Int32} {s : hq_S} {y : hq_S} (hd : 2 ≤ d) (h : f_X3_walkBeat n a1 s = some y) : hq_R (mm_O xs) d mc_X3_walkBeat 0 [some (.ref 113), some (.int a1), none, none] [] s g none y := by
  unfold f_X3_walkBeat at h
  refine hq_p 1 1 [some (.ref 113), some (.int a1), none, none] [.ref 113] (fun n h => rfl) ?_
  refine hq_gf (x := .ref (hq_gr s 113 2)) rfl rfl rfl rfl rfl ?_
  have m1 : hq_isN (hq_gr s 113 2) := hq_ifT h
  rw [if_pos m1] at h
  refine hq_gf (x := .ref ((hq_gr s 113 2) + 2)) rfl (hq_shN m1) rfl rfl (hq_fldr (hq_shN_u m1)) ?_
  refine hq_p 1 8 [some (.ref 113), some (.int a1), none, none] [.int a1, .ref ((hq_gr s 113 2) + 2)] (fun n h => rfl) ?_
  obtain ⟨x2, hx2, h⟩ := hq_bind h
  refine hq_iaload rfl (hq_shN_2 m1) List.length_replicate hx2 ?_
  refine hq_p 2 11 [some (.ref 113), some (.int a1), some (.int x2), none] [.ref 113] (fun n h => rfl) ?_
  refine hq_gf (x := .ref (hq_gr s 113 0)) rfl rfl rfl rfl rfl ?_
  have m3 : hq_isT (hq_gr s 113 0) := hq_ifT h
  rw [if_pos m3] at h
  refine hq_gf (x := .ref ((hq_gr s 113 0) + 6)) rfl (hq_shT m3) rfl rfl (hq_fldr (hq_shT_u m3)) ?_
  refine hq_p 4 22 [some (.ref 113), some (.int a1), some (.int x2), none] [.ref 113, .int (a1 * (8 : Int32)), .ref ((hq_gr s 113 0) + 6)] (fun n h => rfl) ?_
  refine hq_gf (x := .ref (hq_gr s 113 2)) rfl rfl rfl rfl rfl ?_
  have m4 : hq_isN (hq_gr s 113 2) := hq_ifT h
  rw [if_pos m4] at h
  refine hq_gf (x := .ref ((hq_gr s 113 2) + 3)) rfl (hq_shN m4) rfl rfl (hq_fldr (hq_shN_u m4)) ?_
  refine hq_p 1 29 [some (.ref 113), some (.int a1), some (.int x2), none] [.int a1, .ref ((hq_gr s 113 2) + 3), .int (a1 * (8 : Int32)), .ref ((hq_gr s 113 0) + 6)] (fun n h => rfl) ?_
  obtain ⟨x5, hx5, h⟩ := hq_bind h
  refine hq_iaload rfl (hq_shN_3 m4) List.length_replicate hx5 ?_
  refine hq_p 1 31 [some (.ref 113), some (.int a1), some (.int x2), none] [.int ((a1 * (8 : Int32)) + x5), .ref ((hq_gr s 113 0) + 6)] (fun n h => rfl) ?_
  obtain ⟨x6, hx6, h⟩ := hq_bind h
  refine hq_iaload rfl (hq_shT_6 m3) List.length_replicate hx6 ?_
  refine hq_p 1 33 [some (.ref 113), some (.int a1), some (.int x2), none] [.int x2, .int x6] (fun n h => rfl) ?_
  by_cases c8 : x6 = x2
  · rw [if_pos c8] at h
    refine hq_icF rfl (hq_c_ne_F c8) ?_
    refine hq_p 1 37 [some (.ref 113), some (.int a1), some (.int x2), none] [.ref 113] (fun n h => rfl) ?_
    refine hq_gf (x := .ref (hq_gr s 113 2)) rfl rfl rfl rfl rfl ?_
    have m19 : hq_isN (hq_gr s 113 2) := hq_ifT h
    rw [if_pos m19] at h
    refine hq_gf (x := .ref ((hq_gr s 113 2) + 3)) rfl (hq_shN m19) rfl rfl (hq_fldr (hq_shN_u m19)) ?_
    refine hq_p 1 44 [some (.ref 113), some (.int a1), some (.int x2), none] [.int a1, .ref ((hq_gr s 113 2) + 3)] (fun n h => rfl) ?_
    obtain ⟨x20, hx20, h⟩ := hq_bind h
    refine hq_iaload rfl (hq_shN_3 m19) List.length_replicate hx20 ?_
    refine hq_p 3 48 [some (.ref 113), some (.int a1), some (.int x2), none] [.ref 113, .int (x20 + (1 : Int32))] (fun n h => rfl) ?_
    refine hq_gf (x := .ref (hq_gr s 113 0)) rfl rfl rfl rfl rfl ?_
    have m21 : hq_isT (hq_gr s 113 0) := hq_ifT h
    rw [if_pos m21] at h
    refine hq_gf (x := .ref ((hq_gr s 113 0) + 7)) rfl (hq_shT m21) rfl rfl (hq_fldr (hq_shT_u m21)) ?_
    refine hq_p 1 55 [some (.ref 113), some (.int a1), some (.int x2), none] [.int a1, .ref ((hq_gr s 113 0) + 7), .int (x20 + (1 : Int32))] (fun n h => rfl) ?_
    obtain ⟨x22, hx22, h⟩ := hq_bind h
    refine hq_iaload rfl (hq_shT_7 m21) List.length_replicate hx22 ?_
    obtain ⟨z23, hz23, h⟩ := hq_bind h
    suffices hT : hq_R (mm_O xs) d mc_X3_walkBeat 64 [some (.ref 113), some (.int a1), some (.int x2), none] [.int z23] s g none y from by
      clear h
      have h := hz23
      by_cases c24 : (x20 + (1 : Int32)) < x22
      · rw [if_pos c24] at h
        refine hq_icT rfl (hq_c_lt_T c24) ?_
        refine hq_p 1 64 [some (.ref 113), some (.int a1), some (.int x2), none] [.int (0 : Int32)] (fun n h => rfl) ?_
        cases h
        exact hT
      · rw [if_neg c24] at h
        refine hq_icF rfl (hq_c_lt_F c24) ?_
        refine hq_p 2 64 [some (.ref 113), some (.int a1), some (.int x2), none] [.int (1 : Int32)] (fun n h => rfl) ?_
        cases h
        exact hT
    refine hq_p 2 66 [some (.ref 113), some (.int a1), some (.int x2), some (.int z23)] [.ref 113] (fun n h => rfl) ?_
    refine hq_gf (x := .ref (hq_gr s 113 2)) rfl rfl rfl rfl rfl ?_
    have m25 : hq_isN (hq_gr s 113 2) := hq_ifT h
    rw [if_pos m25] at h
    refine hq_gf (x := .ref ((hq_gr s 113 2) + 3)) rfl (hq_shN m25) rfl rfl (hq_fldr (hq_shN_u m25)) ?_
    refine hq_p 2 74 [some (.ref 113), some (.int a1), some (.int x2), some (.int z23)] [.int z23, .int a1, .ref ((hq_gr s 113 2) + 3)] (fun n h => rfl) ?_
    obtain ⟨z26, hz26, h⟩ := hq_bind h
    suffices hT : hq_R (mm_O xs) d mc_X3_walkBeat 92 [some (.ref 113), some (.int a1), some (.int x2), some (.int z23)] [.int z26, .int a1, .ref ((hq_gr s 113 2) + 3)] s g none y from by
      clear h
      have h := hz26
      by_cases c27 : z23 = 0
      · rw [if_pos c27] at h
        refine hq_izT rfl (hq_c_eq_T c27) ?_
        refine hq_p 1 82 [some (.ref 113), some (.int a1), some (.int x2), some (.int z23)] [.ref 113, .int a1, .ref ((hq_gr s 113 2) + 3)] (fun n h => rfl) ?_
        refine hq_gf (x := .ref (hq_gr s 113 2)) rfl rfl rfl rfl rfl ?_
        have m28 : hq_isN (hq_gr s 113 2) := hq_ifT h
        rw [if_pos m28] at h
        refine hq_gf (x := .ref ((hq_gr s 113 2) + 3)) rfl (hq_shN m28) rfl rfl (hq_fldr (hq_shN_u m28)) ?_
        refine hq_p 1 89 [some (.ref 113), some (.int a1), some (.int x2), some (.int z23)] [.int a1, .ref ((hq_gr s 113 2) + 3), .int a1, .ref ((hq_gr s 113 2) + 3)] (fun n h => rfl) ?_
        obtain ⟨x29, hx29, h⟩ := hq_bind h
        refine hq_iaload rfl (hq_shN_3 m28) List.length_replicate hx29 ?_
        refine hq_p 2 92 [some (.ref 113), some (.int a1), some (.int x2), some (.int z23)] [.int (x29 + (1 : Int32)), .int a1, .ref ((hq_gr s 113 2) + 3)] (fun n h => rfl) ?_
        cases h
        exact hT
      · rw [if_neg c27] at h
        refine hq_izF rfl (hq_c_eq_F c27) ?_
        refine hq_p 2 92 [some (.ref 113), some (.int a1), some (.int x2), some (.int z23)] [.int (0 : Int32), .int a1, .ref ((hq_gr s 113 2) + 3)] (fun n h => rfl) ?_
        cases h
        exact hT
    obtain ⟨s30, hs30, h⟩ := hq_bind h
    refine hq_iastore rfl (hq_shN_3 m25) List.length_replicate hs30 ?_
    exact f_X3_walkBeat_J93_run hd h
  · rw [if_neg c8] at h
    refine hq_icT rfl (hq_c_ne_T c8) ?_
    exact f_X3_walkBeat_J93_run hd h
def f_X3_walkBeats_L2_B (n : Nat) (q2 : Int32 → hq_S → Option hq_S) (a1 : Int32) (s : hq_S) : Option hq_S := if hq_isT (hq_gr s 113 0) then if a1 < (hq_gi s (hq_gr s 113 0) 7) then if hq_isT (hq_gr s 113 0) then (hq_ld s ((hq_gr s 113 0) + 7) 3 a1).bind fun x4 => (if 0 < x4 then if a1 = (hq_gi s 113 4) then some s else (f_X3_walkBeat n a1 s).bind fun s8 => some s8 else some s).bind fun z5 => q2 (a1 + (1 : Int32)) z5 else none else some s else none
def f_X3_walkBeats_L2 (n : Nat) (m : Nat) : Int32 → hq_S → Option hq_S := Nat.rec (fun _ _ => none) (fun _ q => f_X3_walkBeats_L2_B n q) m
theorem f_X3_walkBeats_L2_Brun {xs : List Int32} {n d g : Nat} {a1 : Int32} {q2 : Int32 → hq_S → Option hq_S} {s : hq_S} {y : hq_S} (hd : 3 ≤ d) (e2 : ∀ (a1 : Int32) (s : hq_S), q2 a1 s = some y → hq_R (mm_O xs) d mc_X3_walkBeats 2 [some (.ref 113), some (.int a1)] [] s g none y) (h : f_X3_walkBeats_L2_B n q2 a1 s = some y) : hq_R (mm_O xs) d mc_X3_walkBeats 2 [some (.ref 113), some (.int a1)] [] s g none y := by
  unfold f_X3_walkBeats_L2_B at h
  refine hq_p 2 4 [some (.ref 113), some (.int a1)] [.ref 113, .int a1] (fun n h => rfl) ?_
  refine hq_gf (x := .ref (hq_gr s 113 0)) rfl rfl rfl rfl rfl ?_
  have m1 : hq_isT (hq_gr s 113 0) := hq_ifT h
  rw [if_pos m1] at h
  refine hq_gf (x := .int (hq_gi s (hq_gr s 113 0) 7)) rfl (hq_shT m1) rfl rfl rfl ?_
  by_cases c2 : a1 < (hq_gi s (hq_gr s 113 0) 7)
  · rw [if_pos c2] at h
    refine hq_icF rfl (hq_c_ge_F c2) ?_
    refine hq_p 1 14 [some (.ref 113), some (.int a1)] [.ref 113] (fun n h => rfl) ?_
    refine hq_gf (x := .ref (hq_gr s 113 0)) rfl rfl rfl rfl rfl ?_
    have m3 : hq_isT (hq_gr s 113 0) := hq_ifT h
    rw [if_pos m3] at h
    refine hq_gf (x := .ref ((hq_gr s 113 0) + 7)) rfl (hq_shT m3) rfl rfl (hq_fldr (hq_shT_u m3)) ?_
    refine hq_p 1 21 [some (.ref 113), some (.int a1)] [.int a1, .ref ((hq_gr s 113 0) + 7)] (fun n h => rfl) ?_
    obtain ⟨x4, hx4, h⟩ := hq_bind h
    refine hq_iaload rfl (hq_shT_7 m3) List.length_replicate hx4 ?_
    obtain ⟨z5, hz5, h⟩ := hq_bind h
    suffices hT : hq_R (mm_O xs) d mc_X3_walkBeats 38 [some (.ref 113), some (.int a1)] [] z5 g none y from by
      clear h
      have h := hz5
      by_cases c6 : 0 < x4
      · rw [if_pos c6] at h
        refine hq_izF rfl (hq_c_le_F c6) ?_
        refine hq_p 2 27 [some (.ref 113), some (.int a1)] [.ref 113, .int a1] (fun n h => rfl) ?_
        refine hq_gf (x := .int (hq_gi s 113 4)) rfl rfl rfl rfl rfl ?_
        by_cases c7 : a1 = (hq_gi s 113 4)
        · rw [if_pos c7] at h
          refine hq_icT rfl (hq_c_eq_T c7) ?_
          cases h
          exact hT
        · rw [if_neg c7] at h
          refine hq_icF rfl (hq_c_eq_F c7) ?_
          refine hq_p 2 35 [some (.ref 113), some (.int a1)] [.int a1, .ref 113] (fun n h => rfl) ?_
          obtain ⟨s8, hs8, h⟩ := hq_bind h
          refine hq_inv rfl rfl (Nat.le_trans (by decide) hd) rfl rfl (hq_rcv rfl rfl) (f_X3_walkBeat_run (Nat.le_sub_of_add_le (Nat.le_trans (by decide) hd)) hs8) rfl ?_
          cases h
          exact hT
      · rw [if_neg c6] at h
        refine hq_izT rfl (hq_c_le_T c6) ?_
        cases h
        exact hT
    refine hq_p 2 2 [some (.ref 113), some (.int (a1 + (1 : Int32)))] [] (fun n h => rfl) ?_
    exact e2 (a1 + (1 : Int32)) z5 h
  · rw [if_neg c2] at h
    refine hq_icT rfl (hq_c_ge_T c2) ?_
    have h := Option.some.inj h
    subst h
    exact ⟨1, rfl⟩
theorem f_X3_walkBeats_L2_run {xs : List Int32} {n m d g : Nat} {a1 : Int32} {s : hq_S} {y : hq_S} (hd : 3 ≤ d) (h : f_X3_walkBeats_L2 n m a1 s = some y) : hq_R (mm_O xs) d mc_X3_walkBeats 2 [some (.ref 113), some (.int a1)] [] s g none y := by
  induction m generalizing a1 s with
  | zero => cases h
  | succ m ih => exact f_X3_walkBeats_L2_Brun (n := n) hd (fun a1 s h => ih h) h
def f_X3_walkBeats (n : Nat) (s : hq_S) : Option hq_S := f_X3_walkBeats_L2 n n (0 : Int32) s
theorem f_X3_walkBeats_run {xs : List Int32} {n d g : Nat} {s : hq_S} {y : hq_S} (hd : 3 ≤ d) (h : f_X3_walkBeats n s = some y) : hq_R (mm_O xs) d mc_X3_walkBeats 0 [some (.ref 113), none] [] s g none y := by
  unfold f_X3_walkBeats at h
  refine hq_p 2 2 [some (.ref 113), some (.int (0 : Int32))] [] (fun n h => rfl) ?_
  exact f_X3_walkBeats_L2_run hd h
def f_X5_isFree (n : Nat) (k0 : Nat) (a1 : Int32) (s : hq_S) : Option (Int32 × hq_S) := (hq_ld s (k0 + 8) 4 a1).bind fun x1 => if x1 = (-2 : Int32) then some ((1 : Int32), s) else some ((0 : Int32), s)
theorem f_X5_isFree_run {xs : List Int32} {n d g : Nat} {k0 : Nat} {a1 : Int32} {s : hq_S} {y : (Int32 × hq_S)} (hd : 0 ≤ d) (m0_ : hq_isN k0) (h : f_X5_isFree n k0 a1 s = some y) : hq_R (mm_O xs) d mc_X5_isFree 0 [some (.ref k0), some (.int a1)] [] s g (some (.int y.1)) y.2 := by
  unfold f_X5_isFree at h
  refine hq_p 1 1 [some (.ref k0), some (.int a1)] [.ref k0] (fun n h => rfl) ?_
  refine hq_gf (x := .ref (k0 + 8)) rfl (hq_shN m0_) rfl rfl (hq_fldr (hq_shN_u m0_)) ?_
  refine hq_p 1 5 [some (.ref k0), some (.int a1)] [.int a1, .ref (k0 + 8)] (fun n h => rfl) ?_
  obtain ⟨x1, hx1, h⟩ := hq_bind h
  refine hq_iaload rfl (hq_shN_8 m0_) List.length_replicate hx1 ?_
  refine hq_bip (-2 : Int32) rfl (by decide) ?_
  by_cases c2 : x1 = (-2 : Int32)
  · rw [if_pos c2] at h
    refine hq_icF rfl (hq_c_ne_F c2) ?_
    refine hq_p 2 16 [some (.ref k0), some (.int a1)] [.int (1 : Int32)] (fun n h => rfl) ?_
    have h := Option.some.inj h
    subst h
    exact ⟨1, rfl⟩
  · rw [if_neg c2] at h
    refine hq_icT rfl (hq_c_ne_T c2) ?_
    refine hq_p 1 16 [some (.ref k0), some (.int a1)] [.int (0 : Int32)] (fun n h => rfl) ?_
    have h := Option.some.inj h
    subst h
    exact ⟨1, rfl⟩
