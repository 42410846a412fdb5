def f_X2_chooseQuestion_L17_B (n : Nat) (q17 : Int32 → Int32 → hq_S → Option hq_S) (a1 : Int32) (a2 : Int32) (s : hq_S) : Option hq_S := if (60 : Int32) < a2 then some s else (f_X2_worstLeft n a2 a1 s).bind fun y5 => (if y5.1 < (hq_gi y5.2 163 9) then some a2 else some (hq_gi y5.2 163 8)).bind fun z6 => (hq_pi y5.2 163 8 0 z6).bind fun s8 => (hq_pi s8 163 9 0 (hq_min y5.1 (hq_gi s8 163 9))).bind fun s9 => q17 a1 (a2 + (1 : Int32)) s9
def f_X2_chooseQuestion_L17 (n : Nat) (m : Nat) : Int32 → Int32 → hq_S → Option hq_S := Nat.rec (fun _ _ _ => none) (fun _ q => f_X2_chooseQuestion_L17_B n q) m
theorem f_X2_chooseQuestion_L17_Brun {xs : List Int32} {n d g : Nat} {a1 : Int32} {a2 : Int32} {o3 : Option Value} {q17 : Int32 → Int32 → hq_S → Option hq_S} {s : hq_S} {y : hq_S} (hd : 2 ≤ d) (e17 : ∀ (a1 : Int32) (a2 : Int32) (o3 : Option Value) (s : hq_S), q17 a1 a2 s = some y → hq_R (mm_O xs) d mc_X2_chooseQuestion 17 [some (.ref 163), some (.int a1), some (.int a2), o3] [] s g none y) (h : f_X2_chooseQuestion_L17_B n q17 a1 a2 s = some y) : hq_R (mm_O xs) d mc_X2_chooseQuestion 17 [some (.ref 163), some (.int a1), some (.int a2), o3] [] s g none y := by
  unfold f_X2_chooseQuestion_L17_B at h
  refine hq_p 1 18 [some (.ref 163), some (.int a1), some (.int a2), o3] [.int a2] (fun n h => rfl) ?_
  refine hq_bip (60 : Int32) rfl (by decide) ?_
  by_cases c4 : (60 : Int32) < a2
  · rw [if_pos c4] at h
    refine hq_icT rfl (hq_c_gt_T c4) ?_
    have h := Option.some.inj h
    subst h
    exact ⟨1, rfl⟩
  · rw [if_neg c4] at h
    refine hq_icF rfl (hq_c_gt_F c4) ?_
    refine hq_p 3 26 [some (.ref 163), some (.int a1), some (.int a2), o3] [.int a1, .int a2, .ref 163] (fun n h => rfl) ?_
    obtain ⟨y5, hy5, h⟩ := hq_bind h
    refine hq_inv rfl rfl (Nat.le_trans (by decide) hd) rfl rfl (hq_rcv rfl rfl) (f_X2_worstLeft_run (Nat.le_sub_of_add_le (Nat.le_trans (by decide) hd)) hy5) rfl ?_
    refine hq_p 4 33 [some (.ref 163), some (.int a1), some (.int a2), some (.int y5.1)] [.ref 163, .int y5.1, .ref 163] (fun n h => rfl) ?_
    refine hq_gf (x := .int (hq_gi y5.2 163 9)) rfl rfl rfl rfl rfl ?_
    obtain ⟨z6, hz6, h⟩ := hq_bind h
    suffices hT : hq_R (mm_O xs) d mc_X2_chooseQuestion 47 [some (.ref 163), some (.int a1), some (.int a2), some (.int y5.1)] [.int z6, .ref 163] y5.2 g none y from by
      clear h
      have h := hz6
      by_cases c7 : y5.1 < (hq_gi y5.2 163 9)
      · rw [if_pos c7] at h
        refine hq_icF rfl (hq_c_ge_F c7) ?_
        refine hq_p 2 47 [some (.ref 163), some (.int a1), some (.int a2), some (.int y5.1)] [.int a2, .ref 163] (fun n h => rfl) ?_
        cases h
        exact hT
      · rw [if_neg c7] at h
        refine hq_icT rfl (hq_c_ge_T c7) ?_
        refine hq_p 1 44 [some (.ref 163), some (.int a1), some (.int a2), some (.int y5.1)] [.ref 163, .ref 163] (fun n h => rfl) ?_
        refine hq_gf (x := .int (hq_gi y5.2 163 8)) rfl rfl rfl rfl rfl ?_
        cases h
        exact hT
    obtain ⟨s8, hs8, h⟩ := hq_bind h
    refine hq_pfi rfl rfl rfl rfl rfl hs8 ?_
    refine hq_p 3 53 [some (.ref 163), some (.int a1), some (.int a2), some (.int y5.1)] [.ref 163, .int y5.1, .ref 163] (fun n h => rfl) ?_
    refine hq_gf (x := .int (hq_gi s8 163 9)) rfl rfl rfl rfl rfl ?_
    refine hq_math rfl rfl rfl (Nat.le_trans (by decide) hd) ?_
    obtain ⟨s9, hs9, h⟩ := hq_bind h
    refine hq_pfi rfl rfl rfl rfl rfl hs9 ?_
    refine hq_p 2 17 [some (.ref 163), some (.int a1), some (.int (a2 + (1 : Int32))), some (.int y5.1)] [] (fun n h => rfl) ?_
    exact e17 a1 (a2 + (1 : Int32)) _ s9 h
theorem f_X2_chooseQuestion_L17_run {xs : List Int32} {n m d g : Nat} {a1 : Int32} {a2 : Int32} {o3 : Option Value} {s : hq_S} {y : hq_S} (hd : 2 ≤ d) (h : f_X2_chooseQuestion_L17 n m a1 a2 s = some y) : hq_R (mm_O xs) d mc_X2_chooseQuestion 17 [some (.ref 163), some (.int a1), some (.int a2), o3] [] s g none y := by
  induction m generalizing a1 a2 o3 s with
  | zero => cases h
  | succ m ih => exact f_X2_chooseQuestion_L17_Brun (n := n) hd (fun a1 a2 o3 s h => ih h) h
def f_X2_chooseQuestion (n : Nat) (a1 : Int32) (s : hq_S) : Option hq_S := (hq_pi s 163 8 0 (1 : Int32)).bind fun s1 => (f_X2_worstLeft n (1 : Int32) a1 s1).bind fun y2 => (hq_pi y2.2 163 9 0 y2.1).bind fun s3 => f_X2_chooseQuestion_L17 n n a1 (2 : Int32) s3
theorem f_X2_chooseQuestion_run {xs : List Int32} {n d g : Nat} {a1 : Int32} {s : hq_S} {y : hq_S} (hd : 2 ≤ d) (h : f_X2_chooseQuestion n a1 s = some y) : hq_R (mm_O xs) d mc_X2_chooseQuestion 0 [some (.ref 163), some (.int a1), none, none] [] s g none y := by
  unfold f_X2_chooseQuestion at h
  refine hq_p 2 2 [some (.ref 163), some (.int a1), none, none] [.int (1 : Int32), .ref 163] (fun n h => rfl) ?_
  obtain ⟨s1, hs1, h⟩ := hq_bind h
  refine hq_pfi rfl rfl rfl rfl rfl hs1 ?_
  refine hq_p 4 9 [some (.ref 163), some (.int a1), none, none] [.int a1, .int (1 : Int32), .ref 163, .ref 163] (fun n h => rfl) ?_
  obtain ⟨y2, hy2, h⟩ := hq_bind h
  refine hq_inv rfl rfl (Nat.le_trans (by decide) hd) rfl rfl (hq_rcv rfl rfl) (f_X2_worstLeft_run (Nat.le_sub_of_add_le (Nat.le_trans (by decide) hd)) hy2) rfl ?_
  obtain ⟨s3, hs3, h⟩ := hq_bind h
  refine hq_pfi rfl rfl rfl rfl rfl hs3 ?_
  refine hq_p 2 17 [some (.ref 163), some (.int a1), some (.int (2 : Int32)), none] [] (fun n h => rfl) ?_
  exact f_X2_chooseQuestion_L17_run hd h
def f_X3_setUp (n : Nat) (k1 : Nat) (k2 : Nat) (k3 : Nat) (a4 : Int32) (s : hq_S) : Option hq_S := (hq_pr s 113 0 k1).bind fun s1 => (hq_pr s1 113 1 k2).bind fun s2 => (hq_pr s2 113 2 k3).bind fun s3 => (hq_pi s3 113 3 0 a4).bind fun s4 => (hq_pi s4 113 4 0 (-1 : Int32)).bind fun s5 => (hq_pi s5 113 5 1 (1 : Int32)).bind fun s6 => some s6
theorem f_X3_setUp_run {xs : List Int32} {n d g : Nat} {k1 : Nat} {k2 : Nat} {k3 : Nat} {a4 : Int32} {s : hq_S} {y : hq_S} (hd : 0 ≤ d) (m1_ : hq_isT k1) (m2_ : hq_isS k2) (m3_ : hq_isN k3) (h : f_X3_setUp n k1 k2 k3 a4 s = some y) : hq_R (mm_O xs) d mc_X3_setUp 0 [some (.ref 113), some (.ref k1), some (.ref k2), some (.ref k3), some (.int a4)] [] s g none y := by
  unfold f_X3_setUp at h
  refine hq_p 2 2 [some (.ref 113), some (.ref k1), some (.ref k2), some (.ref k3), some (.int a4)] [.ref k1, .ref 113] (fun n h => rfl) ?_
  obtain ⟨s1, hs1, h⟩ := hq_bind h
  refine hq_pfr rfl rfl rfl rfl rfl rfl hs1 ?_
  refine hq_p 2 7 [some (.ref 113), some (.ref k1), some (.ref k2), some (.ref k3), some (.int a4)] [.ref k2, .ref 113] (fun n h => rfl) ?_
  obtain ⟨s2, hs2, h⟩ := hq_bind h
  refine hq_pfr rfl rfl rfl rfl rfl rfl hs2 ?_
  refine hq_p 2 12 [some (.ref 113), some (.ref k1), some (.ref k2), some (.ref k3), some (.int a4)] [.ref k3, .ref 113] (fun n h => rfl) ?_
  obtain ⟨s3, hs3, h⟩ := hq_bind h
  refine hq_pfr rfl rfl rfl rfl rfl rfl hs3 ?_
  refine hq_p 2 18 [some (.ref 113), some (.ref k1), some (.ref k2), some (.ref k3), some (.int a4)] [.int a4, .ref 113] (fun n h => rfl) ?_
  obtain ⟨s4, hs4, h⟩ := hq_bind h
  refine hq_pfi rfl rfl rfl rfl rfl hs4 ?_
  refine hq_p 1 22 [some (.ref 113), some (.ref k1), some (.ref k2), some (.ref k3), some (.int a4)] [.ref 113] (fun n h => rfl) ?_
  refine hq_icn (-1 : Int32) rfl (by decide) ?_
  obtain ⟨s5, hs5, h⟩ := hq_bind h
  refine hq_pfi rfl rfl rfl rfl rfl hs5 ?_
  refine hq_p 2 28 [some (.ref 113), some (.ref k1), some (.ref k2), some (.ref k3), some (.int a4)] [.int (1 : Int32), .ref 113] (fun n h => rfl) ?_
  obtain ⟨s6, hs6, h⟩ := hq_bind h
  refine hq_pfi rfl rfl rfl rfl rfl hs6 ?_
  have h := Option.some.inj h
  subst h
  exact ⟨1, rfl⟩
def f_X3_passMany_L2_B (n : Nat) (q2 : Int32 → Int32 → hq_S → Option hq_S) (a1 : Int32) (a2 : Int32) (s : hq_S) : Option hq_S := if a2 < a1 then (f_X3_pass n s).bind fun s2 => q2 a1 (a2 + (1 : Int32)) s2 else some s
def f_X3_passMany_L2 (n : Nat) (m : Nat) : Int32 → Int32 → hq_S → Option hq_S := Nat.rec (fun _ _ _ => none) (fun _ q => f_X3_passMany_L2_B n q) m
theorem f_X3_passMany_L2_Brun {xs : List Int32} {n d g : Nat} {a1 : Int32} {a2 : Int32} {q2 : Int32 → Int32 → hq_S → Option hq_S} {s : hq_S} {y : hq_S} (hd : 6 ≤ d) (e2 : ∀ (a1 : Int32) (a2 : Int32) (s : hq_S), q2 a1 a2 s = some y → hq_R (mm_O xs) d mc_X3_passMany 2 [some (.ref 113), some (.int a1), some (.int a2)] [] s g none y) (h : f_X3_passMany_L2_B n q2 a1 a2 s = some y) : hq_R (mm_O xs) d mc_X3_passMany 2 [some (.ref 113), some (.int a1), some (.int a2)] [] s g none y := by
  unfold f_X3_passMany_L2_B at h
  refine hq_p 2 4 [some (.ref 113), some (.int a1), some (.int a2)] [.int a1, .int a2] (fun n h => rfl) ?_
  by_cases c1 : a2 < a1
  · rw [if_pos c1] at h
    refine hq_icF rfl (hq_c_ge_F c1) ?_
    refine hq_p 1 8 [some (.ref 113), some (.int a1), some (.int a2)] [.ref 113] (fun n h => rfl) ?_
    obtain ⟨s2, hs2, h⟩ := hq_bind h
    refine hq_inv rfl rfl (Nat.le_trans (by decide) hd) rfl rfl (hq_rcv rfl rfl) (f_X3_pass_run (Nat.le_sub_of_add_le (Nat.le_trans (by decide) hd)) hs2) rfl ?_
    refine hq_p 2 2 [some (.ref 113), some (.int a1), some (.int (a2 + (1 : Int32)))] [] (fun n h => rfl) ?_
    exact e2 a1 (a2 + (1 : Int32)) s2 h
  · rw [if_neg c1] at h
    refine hq_icT rfl (hq_c_ge_T c1) ?_
    have h := Option.some.inj h
    subst h
    exact ⟨1, rfl⟩
theorem f_X3_passMany_L2_run {xs : List Int32} {n m d g : Nat} {a1 : Int32} {a2 : Int32} {s : hq_S} {y : hq_S} (hd : 6 ≤ d) (h : f_X3_passMany_L2 n m a1 a2 s = some y) : hq_R (mm_O xs) d mc_X3_passMany 2 [some (.ref 113), some (.int a1), some (.int a2)] [] s g none y := by
  induction m generalizing a1 a2 s with
  | zero => cases h
  | succ m ih => exact f_X3_passMany_L2_Brun (n := n) hd (fun a1 a2 s h => ih h) h
def f_X3_passMany (n : Nat) (a1 : Int32) (s : hq_S) : Option hq_S := f_X3_passMany_L2 n n a1 (0 : Int32) s
theorem f_X3_passMany_run {xs : List Int32} {n d g : Nat} {a1 : Int32} {s : hq_S} {y : hq_S} (hd : 6 ≤ d) (h : f_X3_passMany n a1 s = some y) : hq_R (mm_O xs) d mc_X3_passMany 0 [some (.ref 113), some (.int a1), none] [] s g none y := by
  unfold f_X3_passMany at h
  refine hq_p 2 2 [some (.ref 113), some (.int a1), some (.int (0 : Int32))] [] (fun n h => rfl) ?_
  exact f_X3_passMany_L2_run hd h
def f_J7_fill_53178_L5_B (n : Nat) (q5 : Nat → Int32 → Int32 → Int32 → hq_S → Option hq_S) (k0 : Nat) (a1 : Int32) (a2 : Int32) (a3 : Int32) (s : hq_S) : Option hq_S := if a2 < a3 then (hq_stiA s k0 a2 a1).bind fun s3 => q5 k0 a1 (a2 + (1 : Int32)) a3 s3 else some s
def f_J7_fill_53178_L5 (n : Nat) (m : Nat) : Nat → Int32 → Int32 → Int32 → hq_S → Option hq_S := Nat.rec (fun _ _ _ _ _ => none) (fun _ q => f_J7_fill_53178_L5_B n q) m
theorem f_J7_fill_53178_L5_Brun {xs : List Int32} {n d g : Nat} {k0 : Nat} {a1 : Int32} {a2 : Int32} {a3 : Int32} {q5 : Nat → Int32 → Int32 → Int32 → hq_S → Option hq_S} {s : hq_S} {y : hq_S} (hd : 0 ≤ d) (e5 : ∀ (k0 : Nat) (a1 : Int32) (a2 : Int32) (a3 : Int32) (s : hq_S), q5 k0 a1 a2 a3 s = some y → hq_R (mm_O xs) d mc_J7_fill_53178 5 [some (.ref k0), some (.int a1), some (.int a2), some (.int a3)] [] s g none y) (h : f_J7_fill_53178_L5_B n q5 k0 a1 a2 a3 s = some y) : hq_R (mm_O xs) d mc_J7_fill_53178 5 [some (.ref k0), some (.int a1), some (.int a2), some (.int a3)] [] s g none y := by
  unfold f_J7_fill_53178_L5_B at h
  refine hq_p 2 7 [some (.ref k0), some (.int a1), some (.int a2), some (.int a3)] [.int a3, .int a2] (fun n h => rfl) ?_
  by_cases c2 : a2 < a3
  · rw [if_pos c2] at h
    refine hq_icF rfl (hq_c_ge_F c2) ?_
    refine hq_p 3 13 [some (.ref k0), some (.int a1), some (.int a2), some (.int a3)] [.int a1, .int a2, .ref k0] (fun n h => rfl) ?_
    obtain ⟨s3, hs3, h⟩ := hq_bind h
    refine hq_iastoreA rfl hs3 ?_
    refine hq_p 2 5 [some (.ref k0), some (.int a1), some (.int (a2 + (1 : Int32))), some (.int a3)] [] (fun n h => rfl) ?_
    exact e5 k0 a1 (a2 + (1 : Int32)) a3 s3 h
  · rw [if_neg c2] at h
    refine hq_icT rfl (hq_c_ge_T c2) ?_
    have h := Option.some.inj h
    subst h
    exact ⟨1, rfl⟩
theorem f_J7_fill_53178_L5_run {xs : List Int32} {n m d g : Nat} {k0 : Nat} {a1 : Int32} {a2 : Int32} {a3 : Int32} {s : hq_S} {y : hq_S} (hd : 0 ≤ d) (h : f_J7_fill_53178_L5 n m k0 a1 a2 a3 s = some y) : hq_R (mm_O xs) d mc_J7_fill_53178 5 [some (.ref k0), some (.int a1), some (.int a2), some (.int a3)] [] s g none y := by
  induction m generalizing k0 a1 a2 a3 s with
  | zero => cases h
  | succ m ih => exact f_J7_fill_53178_L5_Brun (n := n) hd (fun k0 a1 a2 a3 s h => ih h) h
def f_J7_fill_53178 (n : Nat) (k0 : Nat) (a1 : Int32) (s : hq_S) : Option hq_S := (hq_alA k0).bind fun x1 => f_J7_fill_53178_L5 n n k0 a1 (0 : Int32) x1 s
theorem f_J7_fill_53178_run {xs : List Int32} {n d g : Nat} {k0 : Nat} {a1 : Int32} {s : hq_S} {y : hq_S} (hd : 0 ≤ d) (h : f_J7_fill_53178 n k0 a1 s = some y) : hq_R (mm_O xs) d mc_J7_fill_53178 0 [some (.ref k0), some (.int a1), none, none] [] s g none y := by
  unfold f_J7_fill_53178 at h
  refine hq_p 3 3 [some (.ref k0), some (.int a1), some (.int (0 : Int32)), none] [.ref k0] (fun n h => rfl) ?_
  obtain ⟨x1, hx1, h⟩ := hq_bind h
  refine hq_alenA rfl hx1 ?_
  refine hq_p 1 5 [some (.ref k0), some (.int a1), some (.int (0 : Int32)), some (.int x1)] [] (fun n h => rfl) ?_
  exact f_J7_fill_53178_L5_run hd h
def f_X4_clear (n : Nat) (k0 : Nat) (s : hq_S) : Option hq_S := (hq_pi s k0 0 0 (0 : Int32)).bind fun s1 => (hq_pi s1 k0 1 0 (0 : Int32)).bind fun s2 => (f_J7_fill_53178 n (k0 + 2) (0 : Int32) s2).bind fun s3 => (f_J7_fill_53178 n (k0 + 3) (0 : Int32) s3).bind fun s4 => some s4
theorem f_X4_clear_run {xs : List Int32} {n d g : Nat} {k0 : Nat} {s : hq_S} {y : hq_S} (hd : 1 ≤ d) (m0_ : hq_isL k0) (h : f_X4_clear n k0 s = some y) : hq_R (mm_O xs) d mc_X4_clear 0 [some (.ref k0)] [] s g none y := by
  unfold f_X4_clear at h
  refine hq_p 2 2 [some (.ref k0)] [.int (0 : Int32), .ref k0] (fun n h => rfl) ?_
  obtain ⟨s1, hs1, h⟩ := hq_bind h
  refine hq_pfi rfl (hq_shL m0_) rfl rfl rfl hs1 ?_
  refine hq_p 2 7 [some (.ref k0)] [.int (0 : Int32), .ref k0] (fun n h => rfl) ?_
  obtain ⟨s2, hs2, h⟩ := hq_bind h
  refine hq_pfi rfl (hq_shL m0_) rfl rfl rfl hs2 ?_
  refine hq_p 1 11 [some (.ref k0)] [.ref k0] (fun n h => rfl) ?_
  refine hq_gf (x := .ref (k0 + 2)) rfl (hq_shL m0_) rfl rfl (hq_fldr (hq_shL_u m0_)) ?_
  refine hq_p 1 15 [some (.ref k0)] [.int (0 : Int32), .ref (k0 + 2)] (fun n h => rfl) ?_
  obtain ⟨s3, hs3, h⟩ := hq_bind h
  refine hq_ist rfl rfl rfl (Nat.le_trans (by decide) hd) rfl (f_J7_fill_53178_run (Nat.le_sub_of_add_le (Nat.le_trans (by decide) hd)) hs3) rfl ?_
  refine hq_p 1 19 [some (.ref k0)] [.ref k0] (fun n h => rfl) ?_
  refine hq_gf (x := .ref (k0 + 3)) rfl (hq_shL m0_) rfl rfl (hq_fldr (hq_shL_u m0_)) ?_
  refine hq_p 1 23 [some (.ref k0)] [.int (0 : Int32), .ref (k0 + 3)] (fun n h => rfl) ?_
  obtain ⟨s4, hs4, h⟩ := hq_bind h
  refine hq_ist rfl rfl rfl (Nat.le_trans (by decide) hd) rfl (f_J7_fill_53178_run (Nat.le_sub_of_add_le (Nat.le_trans (by decide) hd)) hs4) rfl ?_
  have h := Option.some.inj h
  subst h
  exact ⟨1, rfl⟩
def f_X4_open (n : Nat) (k0 : Nat) (a1 : Int32) (s : hq_S) : Option hq_S := (hq_st s (k0 + 2) 3 a1 (hq_gi s k0 1)).bind fun s1 => some s1
theorem f_X4_open_run {xs : List Int32} {n d g : Nat} {k0 : Nat} {a1 : Int32} {s : hq_S} {y : hq_S} (hd : 0 ≤ d) (m0_ : hq_isL k0) (h : f_X4_open n k0 a1 s = some y) : hq_R (mm_O xs) d mc_X4_open 0 [some (.ref k0), some (.int a1)] [] s g none y := by
  unfold f_X4_open at h
  refine hq_p 1 1 [some (.ref k0), some (.int a1)] [.ref k0] (fun n h => rfl) ?_
  refine hq_gf (x := .ref (k0 + 2)) rfl (hq_shL m0_) rfl rfl (hq_fldr (hq_shL_u m0_)) ?_
  refine hq_p 2 6 [some (.ref k0), some (.int a1)] [.ref k0, .int a1, .ref (k0 + 2)] (fun n h => rfl) ?_
  refine hq_gf (x := .int (hq_gi s k0 1)) rfl (hq_shL m0_) rfl rfl rfl ?_
  obtain ⟨s1, hs1, h⟩ := hq_bind h
  refine hq_iastore rfl (hq_shL_2 m0_) List.length_replicate hs1 ?_
  have h := Option.some.inj h
  subst h
  exact ⟨1, rfl⟩
def f_X4_close (n : Nat) (k0 : Nat) (a1 : Int32) (s : hq_S) : Option hq_S := (hq_st s (k0 + 3) 3 a1 (hq_gi s k0 1)).bind fun s1 => some s1
theorem f_X4_close_run {xs : List Int32} {n d g : Nat} {k0 : Nat} {a1 : Int32} {s : hq_S} {y : hq_S} (hd : 0 ≤ d) (m0_ : hq_isL k0) (h : f_X4_close n k0 a1 s = some y) : hq_R (mm_O xs) d mc_X4_close 0 [some (.ref k0), some (.int a1)] [] s g none y := by
  unfold f_X4_close at h
  refine hq_p 1 1 [some (.ref k0), some (.int a1)] [.ref k0] (fun n h => rfl) ?_
  refine hq_gf (x := .ref (k0 + 3)) rfl (hq_shL m0_) rfl rfl (hq_fldr (hq_shL_u m0_)) ?_
  refine hq_p 2 6 [some (.ref k0), some (.int a1)] [.ref k0, .int a1, .ref (k0 + 3)] (fun n h => rfl) ?_
  refine hq_gf (x := .int (hq_gi s k0 1)) rfl (hq_shL m0_) rfl rfl rfl ?_
  obtain ⟨s1, hs1, h⟩ := hq_bind h
  refine hq_iastore rfl (hq_shL_3 m0_) List.length_replicate hs1 ?_
  have h := Option.some.inj h
  subst h
  exact ⟨1, rfl⟩
def f_X4_tellKnot (n : Nat) (k0 : Nat) (s : hq_S) : Option (Int32 × hq_S) := if (hq_gi s k0 0) < (64 : Int32) then (hq_pi s k0 0 0 ((hq_gi s k0 0) + (1 : Int32))).bind fun s2 => some ((1 : Int32), s2) else some ((0 : Int32), s)
theorem f_X4_tellKnot_run {xs : List Int32} {n d g : Nat} {k0 : Nat} {s : hq_S} {y : (Int32 × hq_S)} (hd : 0 ≤ d) (m0_ : hq_isL k0) (h : f_X4_tellKnot n k0 s = some y) : hq_R (mm_O xs) d mc_X4_tellKnot 0 [some (.ref k0)] [] s g (some (.int y.1)) y.2 := by
  unfold f_X4_tellKnot at h
  refine hq_p 1 1 [some (.ref k0)] [.ref k0] (fun n h => rfl) ?_
  refine hq_gf (x := .int (hq_gi s k0 0)) rfl (hq_shL m0_) rfl rfl rfl ?_
  refine hq_bip (64 : Int32) rfl (by decide) ?_
  by_cases c1 : (hq_gi s k0 0) < (64 : Int32)
  · rw [if_pos c1] at h
    refine hq_icT rfl (hq_c_lt_T c1) ?_
    refine hq_p 2 13 [some (.ref k0)] [.ref k0, .ref k0] (fun n h => rfl) ?_
    refine hq_gf (x := .int (hq_gi s k0 0)) rfl (hq_shL m0_) rfl rfl rfl ?_
    refine hq_p 2 18 [some (.ref k0)] [.int ((hq_gi s k0 0) + (1 : Int32)), .ref k0] (fun n h => rfl) ?_
    obtain ⟨s2, hs2, h⟩ := hq_bind h
    refine hq_pfi rfl (hq_shL m0_) rfl rfl rfl hs2 ?_
    refine hq_p 1 22 [some (.ref k0)] [.int (1 : Int32)] (fun n h => rfl) ?_
    have h := Option.some.inj h
    subst h
    exact ⟨1, rfl⟩
  · rw [if_neg c1] at h
    refine hq_icF rfl (hq_c_lt_F c1) ?_
    refine hq_p 1 10 [some (.ref k0)] [.int (0 : Int32)] (fun n h => rfl) ?_
    have h := Option.some.inj h
    subst h
    exact ⟨1, rfl⟩
def f_X4_put (n : Nat) (k0 : Nat) (a1 : Int32) (s : hq_S) : Option hq_S := if (hq_gi s k0 1) < (64 : Int32) then (hq_st s (k0 + 1) 64 (hq_gi s k0 1) a1).bind fun s2 => (hq_pi s2 k0 1 0 ((hq_gi s2 k0 1) + (1 : Int32))).bind fun s3 => some s3 else some s
theorem f_X4_put_run {xs : List Int32} {n d g : Nat} {k0 : Nat} {a1 : Int32} {s : hq_S} {y : hq_S} (hd : 0 ≤ d) (m0_ : hq_isL k0) (h : f_X4_put n k0 a1 s = some y) : hq_R (mm_O xs) d mc_X4_put 0 [some (.ref k0), some (.int a1)] [] s g none y := by
  unfold f_X4_put at h
  refine hq_p 1 1 [some (.ref k0), some (.int a1)] [.ref k0] (fun n h => rfl) ?_
  refine hq_gf (x := .int (hq_gi s k0 1)) rfl (hq_shL m0_) rfl rfl rfl ?_
  refine hq_bip (64 : Int32) rfl (by decide) ?_
  by_cases c1 : (hq_gi s k0 1) < (64 : Int32)
  · rw [if_pos c1] at h
    refine hq_icF rfl (hq_c_ge_F c1) ?_
    refine hq_p 1 10 [some (.ref k0), some (.int a1)] [.ref k0] (fun n h => rfl) ?_
    refine hq_gf (x := .ref (k0 + 1)) rfl (hq_shL m0_) rfl rfl (hq_fldr (hq_shL_u m0_)) ?_
    refine hq_p 1 14 [some (.ref k0), some (.int a1)] [.ref k0, .ref (k0 + 1)] (fun n h => rfl) ?_
    refine hq_gf (x := .int (hq_gi s k0 1)) rfl (hq_shL m0_) rfl rfl rfl ?_
    refine hq_p 1 18 [some (.ref k0), some (.int a1)] [.int a1, .int (hq_gi s k0 1), .ref (k0 + 1)] (fun n h => rfl) ?_
    obtain ⟨s2, hs2, h⟩ := hq_bind h
    refine hq_iastore rfl (hq_shL_1 m0_) List.length_replicate hs2 ?_
    refine hq_p 2 21 [some (.ref k0), some (.int a1)] [.ref k0, .ref k0] (fun n h => rfl) ?_
    refine hq_gf (x := .int (hq_gi s2 k0 1)) rfl (hq_shL m0_) rfl rfl rfl ?_
    refine hq_p 2 26 [some (.ref k0), some (.int a1)] [.int ((hq_gi s2 k0 1) + (1 : Int32)), .ref k0] (fun n h => rfl) ?_
    obtain ⟨s3, hs3, h⟩ := hq_bind h
    refine hq_pfi rfl (hq_shL m0_) rfl rfl rfl hs3 ?_
    have h := Option.some.inj h
    subst h
    exact ⟨1, rfl⟩
  · rw [if_neg c1] at h
    refine hq_icT rfl (hq_c_ge_T c1) ?_
    have h := Option.some.inj h
    subst h
    exact ⟨1, rfl⟩
def f_X5_clear (n : Nat) (k0 : Nat) (s : hq_S) : Option hq_S := (hq_pi s k0 0 0 (0 : Int32)).bind fun s1 => (hq_pj s1 k0 1 (0 : Int64)).bind fun s2 => (hq_pi s2 k0 2 0 (0 : Int32)).bind fun s3 => (f_J7_fill_53178 n (k0 + 1) (0 : Int32) s3).bind fun s4 => (f_J7_fill_53178 n (k0 + 2) (0 : Int32) s4).bind fun s5 => (f_J7_fill_53178 n (k0 + 3) (0 : Int32) s5).bind fun s6 => (f_J7_fill_53178 n (k0 + 4) (0 : Int32) s6).bind fun s7 => (f_J7_fill_53178 n (k0 + 5) (0 : Int32) s7).bind fun s8 => (f_J7_fill_53178 n (k0 + 6) (0 : Int32) s8).bind fun s9 => (f_J7_fill_53178 n (k0 + 7) (0 : Int32) s9).bind fun s10 => (f_J7_fill_53178 n (k0 + 8) (-2 : Int32) s10).bind fun s11 => some s11
theorem f_X5_clear_run {xs : List Int32} {n d g : Nat} {k0 : Nat} {s : hq_S} {y : hq_S} (hd : 1 ≤ d) (m0_ : hq_isN k0) (h : f_X5_clear n k0 s = some y) : hq_R (mm_O xs) d mc_X5_clear 0 [some (.ref k0)] [] s g none y := by
  unfold f_X5_clear at h
  refine hq_p 2 2 [some (.ref k0)] [.int (0 : Int32), .ref k0] (fun n h => rfl) ?_
  obtain ⟨s1, hs1, h⟩ := hq_bind h
  refine hq_pfi rfl (hq_shN m0_) rfl rfl rfl hs1 ?_
  refine hq_p 2 7 [some (.ref k0)] [.long (0 : Int64), .ref k0] (fun n h => rfl) ?_
  obtain ⟨s2, hs2, h⟩ := hq_bind h
  refine hq_pfj rfl (hq_shN m0_) rfl rfl rfl hs2 ?_
  refine hq_p 2 12 [some (.ref k0)] [.int (0 : Int32), .ref k0] (fun n h => rfl) ?_
  obtain ⟨s3, hs3, h⟩ := hq_bind h
  refine hq_pfi rfl (hq_shN m0_) rfl rfl rfl hs3 ?_
  refine hq_p 1 16 [some (.ref k0)] [.ref k0] (fun n h => rfl) ?_
  refine hq_gf (x := .ref (k0 + 1)) rfl (hq_shN m0_) rfl rfl (hq_fldr (hq_shN_u m0_)) ?_
  refine hq_p 1 20 [some (.ref k0)] [.int (0 : Int32), .ref (k0 + 1)] (fun n h => rfl) ?_
  obtain ⟨s4, hs4, h⟩ := hq_bind h
  refine hq_ist rfl rfl rfl (Nat.le_trans (by decide) hd) rfl (f_J7_fill_53178_run (Nat.le_sub_of_add_le (Nat.le_trans (by decide) hd)) hs4) rfl ?_
  refine hq_p 1 24 [some (.ref k0)] [.ref k0] (fun n h => rfl) ?_
  refine hq_gf (x := .ref (k0 + 2)) rfl (hq_shN m0_) rfl rfl (hq_fldr (hq_shN_u m0_)) ?_
  refine hq_p 1 28 [some (.ref k0)] [.int (0 : Int32), .ref (k0 + 2)] (fun n h => rfl) ?_
  obtain ⟨s5, hs5, h⟩ := hq_bind h
  refine hq_ist rfl rfl rfl (Nat.le_trans (by decide) hd) rfl (f_J7_fill_53178_run (Nat.le_sub_of_add_le (Nat.le_trans (by decide) hd)) hs5) rfl ?_
  refine hq_p 1 32 [some (.ref k0)] [.ref k0] (fun n h => rfl) ?_
  refine hq_gf (x := .ref (k0 + 3)) rfl (hq_shN m0_) rfl rfl (hq_fldr (hq_shN_u m0_)) ?_
  refine hq_p 1 36 [some (.ref k0)] [.int (0 : Int32), .ref (k0 + 3)] (fun n h => rfl) ?_
  obtain ⟨s6, hs6, h⟩ := hq_bind h
  refine hq_ist rfl rfl rfl (Nat.le_trans (by decide) hd) rfl (f_J7_fill_53178_run (Nat.le_sub_of_add_le (Nat.le_trans (by decide) hd)) hs6) rfl ?_
  refine hq_p 1 40 [some (.ref k0)] [.ref k0] (fun n h => rfl) ?_
  refine hq_gf (x := .ref (k0 + 4)) rfl (hq_shN m0_) rfl rfl (hq_fldr (hq_shN_u m0_)) ?_
  refine hq_p 1 44 [some (.ref k0)] [.int (0 : Int32), .ref (k0 + 4)] (fun n h => rfl) ?_
  obtain ⟨s7, hs7, h⟩ := hq_bind h
  refine hq_ist rfl rfl rfl (Nat.le_trans (by decide) hd) rfl (f_J7_fill_53178_run (Nat.le_sub_of_add_le (Nat.le_trans (by decide) hd)) hs7) rfl ?_
  refine hq_p 1 48 [some (.ref k0)] [.ref k0] (fun n h => rfl) ?_
  refine hq_gf (x := .ref (k0 + 5)) rfl (hq_shN m0_) rfl rfl (hq_fldr (hq_shN_u m0_)) ?_
  refine hq_p 1 52 [some (.ref k0)] [.int (0 : Int32), .ref (k0 + 5)] (fun n h => rfl) ?_
  obtain ⟨s8, hs8, h⟩ := hq_bind h
  refine hq_ist rfl rfl rfl (Nat.le_trans (by decide) hd) rfl (f_J7_fill_53178_run (Nat.le_sub_of_add_le (Nat.le_trans (by decide) hd)) hs8) rfl ?_
  refine hq_p 1 56 [some (.ref k0)] [.ref k0] (fun n h => rfl) ?_
  refine hq_gf (x := .ref (k0 + 6)) rfl (hq_shN m0_) rfl rfl (hq_fldr (hq_shN_u m0_)) ?_
  refine hq_p 1 60 [some (.ref k0)] [.int (0 : Int32), .ref (k0 + 6)] (fun n h => rfl) ?_
  obtain ⟨s9, hs9, h⟩ := hq_bind h
  refine hq_ist rfl rfl rfl (Nat.le_trans (by decide) hd) rfl (f_J7_fill_53178_run (Nat.le_sub_of_add_le (Nat.le_trans (by decide) hd)) hs9) rfl ?_
  refine hq_p 1 64 [some (.ref k0)] [.ref k0] (fun n h => rfl) ?_
  refine hq_gf (x := .ref (k0 + 7)) rfl (hq_shN m0_) rfl rfl (hq_fldr (hq_shN_u m0_)) ?_
  refine hq_p 1 68 [some (.ref k0)] [.int (0 : Int32), .ref (k0 + 7)] (fun n h => rfl) ?_
  obtain ⟨s10, hs10, h⟩ := hq_bind h
  refine hq_ist rfl rfl rfl (Nat.le_trans (by decide) hd) rfl (f_J7_fill_53178_run (Nat.le_sub_of_add_le (Nat.le_trans (by decide) hd)) hs10) rfl ?_
  refine hq_p 1 72 [some (.ref k0)] [.ref k0] (fun n h => rfl) ?_
  refine hq_gf (x := .ref (k0 + 8)) rfl (hq_shN m0_) rfl rfl (hq_fldr (hq_shN_u m0_)) ?_
  refine hq_bip (-2 : Int32) rfl (by decide) ?_
  obtain ⟨s11, hs11, h⟩ := hq_bind h
  refine hq_ist rfl rfl rfl (Nat.le_trans (by decide) hd) rfl (f_J7_fill_53178_run (Nat.le_sub_of_add_le (Nat.le_trans (by decide) hd)) hs11) rfl ?_
  have h := Option.some.inj h
  subst h
  exact ⟨1, rfl⟩
def f_X5_howManyCaught_L4_B (n : Nat) (q4 : Nat → Int32 → Int32 → Int32 → hq_S → Option (Int32 × hq_S)) (k0 : Nat) (a1 : Int32) (a2 : Int32) (a3 : Int32) (s : hq_S) : Option (Int32 × hq_S) := if a3 < a1 then (f_X5_isFree n k0 a3 s).bind fun y2 => (if y2.1 = 0 then some (1 : Int32) else some (0 : Int32)).bind fun z3 => q4 k0 a1 (a2 + z3) (a3 + (1 : Int32)) y2.2 else some (a2, s)
def f_X5_howManyCaught_L4 (n : Nat) (m : Nat) : Nat → Int32 → Int32 → Int32 → hq_S → Option (Int32 × hq_S) := Nat.rec (fun _ _ _ _ _ => none) (fun _ q => f_X5_howManyCaught_L4_B n q) m
theorem f_X5_howManyCaught_L4_Brun {xs : List Int32} {n d g : Nat} {k0 : Nat} {a1 : Int32} {a2 : Int32} {a3 : Int32} {q4 : Nat → Int32 → Int32 → Int32 → hq_S → Option (Int32 × hq_S)} {s : hq_S} {y : (Int32 × hq_S)} (hd : 1 ≤ d) (e4 : ∀ (k0 : Nat) (a1 : Int32) (a2 : Int32) (a3 : Int32) (s : hq_S) (m0_ : hq_isN k0), q4 k0 a1 a2 a3 s = some y → hq_R (mm_O xs) d mc_X5_howManyCaught 4 [some (.ref k0), some (.int a1), some (.int a2), some (.int a3)] [] s g (some (.int y.1)) y.2) (m0_ : hq_isN k0) (h : f_X5_howManyCaught_L4_B n q4 k0 a1 a2 a3 s = some y) : hq_R (mm_O xs) d mc_X5_howManyCaught 4 [some (.ref k0), some (.int a1), some (.int a2), some (.int a3)] [] s g (some (.int y.1)) y.2 := by
  unfold f_X5_howManyCaught_L4_B at h
  refine hq_p 2 6 [some (.ref k0), some (.int a1), some (.int a2), some (.int a3)] [.int a1, .int a3] (fun n h => rfl) ?_
  by_cases c1 : a3 < a1
  · rw [if_pos c1] at h
    refine hq_icF rfl (hq_c_ge_F c1) ?_
    refine hq_p 3 12 [some (.ref k0), some (.int a1), some (.int a2), some (.int a3)] [.int a3, .ref k0, .int a2] (fun n h => rfl) ?_
    obtain ⟨y2, hy2, h⟩ := hq_bind h
    refine hq_inv rfl rfl (Nat.le_trans (by decide) hd) rfl rfl (hq_rcv (hq_shN m0_) rfl) (f_X5_isFree_run (Nat.le_sub_of_add_le (Nat.le_trans (by decide) hd)) m0_ hy2) rfl ?_
    obtain ⟨z3, hz3, h⟩ := hq_bind h
    suffices hT : hq_R (mm_O xs) d mc_X5_howManyCaught 23 [some (.ref k0), some (.int a1), some (.int a2), some (.int a3)] [.int z3, .int a2] y2.2 g (some (.int y.1)) y.2 from by
      clear h
      have h := hz3
      by_cases c4 : y2.1 = 0
      · rw [if_pos c4] at h
        refine hq_izT rfl (hq_c_eq_T c4) ?_
        refine hq_p 1 23 [some (.ref k0), some (.int a1), some (.int a2), some (.int a3)] [.int (1 : Int32), .int a2] (fun n h => rfl) ?_
        cases h
        exact hT
      · rw [if_neg c4] at h
        refine hq_izF rfl (hq_c_eq_F c4) ?_
        refine hq_p 2 23 [some (.ref k0), some (.int a1), some (.int a2), some (.int a3)] [.int (0 : Int32), .int a2] (fun n h => rfl) ?_
        cases h
        exact hT
    refine hq_p 4 4 [some (.ref k0), some (.int a1), some (.int (a2 + z3)), some (.int (a3 + (1 : Int32)))] [] (fun n h => rfl) ?_
    exact e4 k0 a1 (a2 + z3) (a3 + (1 : Int32)) y2.2 m0_ h
  · rw [if_neg c1] at h
    refine hq_icT rfl (hq_c_ge_T c1) ?_
    refine hq_p 1 32 [some (.ref k0), some (.int a1), some (.int a2), some (.int a3)] [.int a2] (fun n h => rfl) ?_
    have h := Option.some.inj h
    subst h
    exact ⟨1, rfl⟩
theorem f_X5_howManyCaught_L4_run {xs : List Int32} {n m d g : Nat} {k0 : Nat} {a1 : Int32} {a2 : Int32} {a3 : Int32} {s : hq_S} {y : (Int32 × hq_S)} (hd : 1 ≤ d) (m0_ : hq_isN k0) (h : f_X5_howManyCaught_L4 n m k0 a1 a2 a3 s = some y) : hq_R (mm_O xs) d mc_X5_howManyCaught 4 [some (.ref k0), some (.int a1), some (.int a2), some (.int a3)] [] s g (some (.int y.1)) y.2 := by
  induction m generalizing k0 a1 a2 a3 s with
  | zero => cases h
  | succ m ih => exact f_X5_howManyCaught_L4_Brun (n := n) hd (fun k0 a1 a2 a3 s m0_ h => ih m0_ h) m0_ h
def f_X5_howManyCaught (n : Nat) (k0 : Nat) (a1 : Int32) (s : hq_S) : Option (Int32 × hq_S) := f_X5_howManyCaught_L4 n n k0 a1 (0 : Int32) (0 : Int32) s
theorem f_X5_howManyCaught_run {xs : List Int32} {n d g : Nat} {k0 : Nat} {a1 : Int32} {s : hq_S} {y : (Int32 × hq_S)} (hd : 1 ≤ d) (m0_ : hq_isN k0) (h : f_X5_howManyCaught n k0 a1 s = some y) : hq_R (mm_O xs) d mc_X5_howManyCaught 0 [some (.ref k0), some (.int a1), none, none] [] s g (some (.int y.1)) y.2 := by
  unfold f_X5_howManyCaught at h
  refine hq_p 4 4 [some (.ref k0), some (.int a1), some (.int (0 : Int32)), some (.int (0 : Int32))] [] (fun n h => rfl) ?_
  exact f_X5_howManyCaught_L4_run hd m0_ h
def f_X5_lootOfAll_L4_B (n : Nat) (q4 : Nat → Int32 → Int32 → Int32 → hq_S → Option (Int32 × hq_S)) (k0 : Nat) (a1 : Int32) (a2 : Int32) (a3 : Int32) (s : hq_S) : Option (Int32 × hq_S) := if a3 < a1 then (hq_ld s (k0 + 1) 10 a3).bind fun x2 => q4 k0 a1 (a2 + x2) (a3 + (1 : Int32)) s else some (a2, s)
def f_X5_lootOfAll_L4 (n : Nat) (m : Nat) : Nat → Int32 → Int32 → Int32 → hq_S → Option (Int32 × hq_S) := Nat.rec (fun _ _ _ _ _ => none) (fun _ q => f_X5_lootOfAll_L4_B n q) m
theorem f_X5_lootOfAll_L4_Brun {xs : List Int32} {n d g : Nat} {k0 : Nat} {a1 : Int32} {a2 : Int32} {a3 : Int32} {q4 : Nat → Int32 → Int32 → Int32 → hq_S → Option (Int32 × hq_S)} {s : hq_S} {y : (Int32 × hq_S)} (hd : 0 ≤ d) (e4 : ∀ (k0 : Nat) (a1 : Int32) (a2 : Int32) (a3 : Int32) (s : hq_S) (m0_ : hq_isN k0), q4 k0 a1 a2 a3 s = some y → hq_R (mm_O xs) d mc_X5_lootOfAll 4 [some (.ref k0), some (.int a1), some (.int a2), some (.int a3)] [] s g (some (.int y.1)) y.2) (m0_ : hq_isN k0) (h : f_X5_lootOfAll_L4_B n q4 k0 a1 a2 a3 s = some y) : hq_R (mm_O xs) d mc_X5_lootOfAll 4 [some (.ref k0), some (.int a1), some (.int a2), some (.int a3)] [] s g (some (.int y.1)) y.2 := by
  unfold f_X5_lootOfAll_L4_B at h
  refine hq_p 2 6 [some (.ref k0), some (.int a1), some (.int a2), some (.int a3)] [.int a1, .int a3] (fun n h => rfl) ?_
  by_cases c1 : a3 < a1
  · rw [if_pos c1] at h
    refine hq_icF rfl (hq_c_ge_F c1) ?_
    refine hq_p 2 11 [some (.ref k0), some (.int a1), some (.int a2), some (.int a3)] [.ref k0, .int a2] (fun n h => rfl) ?_
    refine hq_gf (x := .ref (k0 + 1)) rfl (hq_shN m0_) rfl rfl (hq_fldr (hq_shN_u m0_)) ?_
    refine hq_p 1 15 [some (.ref k0), some (.int a1), some (.int a2), some (.int a3)] [.int a3, .ref (k0 + 1), .int a2] (fun n h => rfl) ?_
    obtain ⟨x2, hx2, h⟩ := hq_bind h
    refine hq_iaload rfl (hq_shN_1 m0_) List.length_replicate hx2 ?_
    refine hq_p 4 4 [some (.ref k0), some (.int a1), some (.int (a2 + x2)), some (.int (a3 + (1 : Int32)))] [] (fun n h => rfl) ?_
    exact e4 k0 a1 (a2 + x2) (a3 + (1 : Int32)) s m0_ h
  · rw [if_neg c1] at h
    refine hq_icT rfl (hq_c_ge_T c1) ?_
    refine hq_p 1 25 [some (.ref k0), some (.int a1), some (.int a2), some (.int a3)] [.int a2] (fun n h => rfl) ?_
    have h := Option.some.inj h
    subst h
    exact ⟨1, rfl⟩
theorem f_X5_lootOfAll_L4_run {xs : List Int32} {n m d g : Nat} {k0 : Nat} {a1 : Int32} {a2 : Int32} {a3 : Int32} {s : hq_S} {y : (Int32 × hq_S)} (hd : 0 ≤ d) (m0_ : hq_isN k0) (h : f_X5_lootOfAll_L4 n m k0 a1 a2 a3 s = some y) : hq_R (mm_O xs) d mc_X5_lootOfAll 4 [some (.ref k0), some (.int a1), some (.int a2), some (.int a3)] [] s g (some (.int y.1)) y.2 := by
  induction m generalizing k0 a1 a2 a3 s with
  | zero => cases h
  | succ m ih => exact f_X5_lootOfAll_L4_Brun (n := n) hd (fun k0 a1 a2 a3 s m0_ h => ih m0_ h) m0_ h
def f_X5_lootOfAll (n : Nat) (k0 : Nat) (a1 : Int32) (s : hq_S) : Option (Int32 × hq_S) := f_X5_lootOfAll_L4 n n k0 a1 (0 : Int32) (0 : Int32) s
theorem f_X5_lootOfAll_run {xs : List Int32} {n d g : Nat} {k0 : Nat} {a1 : Int32} {s : hq_S} {y : (Int32 × hq_S)} (hd : 0 ≤ d) (m0_ : hq_isN k0) (h : f_X5_lootOfAll n k0 a1 s = some y) : hq_R (mm_O xs) d mc_X5_lootOfAll 0 [some (.ref k0), some (.int a1), none, none] [] s g (some (.int y.1)) y.2 := by
  unfold f_X5_lootOfAll at h
  refine hq_p 4 4 [some (.ref k0), some (.int a1), some (.int (0 : Int32)), some (.int (0 : Int32))] [] (fun n h => rfl) ?_
  exact f_X5_lootOfAll_L4_run hd m0_ h
def f_X5_hadByAll_L4_B (n : Nat) (q4 : Nat → Int32 → Int32 → Int32 → hq_S → Option (Int32 × hq_S)) (k0 : Nat) (a1 : Int32) (a2 : Int32) (a3 : Int32) (s : hq_S) : Option (Int32 × hq_S) := if a3 < a1 then (hq_ld s (k0 + 7) 4 a3).bind fun x2 => q4 k0 a1 (a2 + x2) (a3 + (1 : Int32)) s else some (a2, s)
def f_X5_hadByAll_L4 (n : Nat) (m : Nat) : Nat → Int32 → Int32 → Int32 → hq_S → Option (Int32 × hq_S) := Nat.rec (fun _ _ _ _ _ => none) (fun _ q => f_X5_hadByAll_L4_B n q) m
theorem f_X5_hadByAll_L4_Brun {xs : List Int32} {n d g : Nat} {k0 : Nat} {a1 : Int32} {a2 : Int32} {a3 : Int32} {q4 : Nat → Int32 → Int32 → Int32 → hq_S → Option (Int32 × hq_S)} {s : hq_S} {y : (Int32 × hq_S)} (hd : 0 ≤ d) (e4 : ∀ (k0 : Nat) (a1 : Int32) (a2 : Int32) (a3 : Int32) (s : hq_S) (m0_ : hq_isN k0), q4 k0 a1 a2 a3 s = some y → hq_R (mm_O xs) d mc_X5_hadByAll 4 [some (.ref k0), some (.int a1), some (.int a2), some (.int a3)] [] s g (some (.int y.1)) y.2) (m0_ : hq_isN k0) (h : f_X5_hadByAll_L4_B n q4 k0 a1 a2 a3 s = some y) : hq_R (mm_O xs) d mc_X5_hadByAll 4 [some (.ref k0), some (.int a1), some (.int a2), some (.int a3)] [] s g (some (.int y.1)) y.2 := by
  unfold f_X5_hadByAll_L4_B at h
  refine hq_p 2 6 [some (.ref k0), some (.int a1), some (.int a2), some (.int a3)] [.int a1, .int a3] (fun n h => rfl) ?_
  by_cases c1 : a3 < a1
  · rw [if_pos c1] at h
    refine hq_icF rfl (hq_c_ge_F c1) ?_
    refine hq_p 2 11 [some (.ref k0), some (.int a1), some (.int a2), some (.int a3)] [.ref k0, .int a2] (fun n h => rfl) ?_
    refine hq_gf (x := .ref (k0 + 7)) rfl (hq_shN m0_) rfl rfl (hq_fldr (hq_shN_u m0_)) ?_
    refine hq_p 1 15 [some (.ref k0), some (.int a1), some (.int a2), some (.int a3)] [.int a3, .ref (k0 + 7), .int a2] (fun n h => rfl) ?_
    obtain ⟨x2, hx2, h⟩ := hq_bind h
    refine hq_iaload rfl (hq_shN_7 m0_) List.length_replicate hx2 ?_
    refine hq_p 4 4 [some (.ref k0), some (.int a1), some (.int (a2 + x2)), some (.int (a3 + (1 : Int32)))] [] (fun n h => rfl) ?_
    exact e4 k0 a1 (a2 + x2) (a3 + (1 : Int32)) s m0_ h
  · rw [if_neg c1] at h
    refine hq_icT rfl (hq_c_ge_T c1) ?_
    refine hq_p 1 25 [some (.ref k0), some (.int a1), some (.int a2), some (.int a3)] [.int a2] (fun n h => rfl) ?_
    have h := Option.some.inj h
    subst h
    exact ⟨1, rfl⟩
theorem f_X5_hadByAll_L4_run {xs : List Int32} {n m d g : Nat} {k0 : Nat} {a1 : Int32} {a2 : Int32} {a3 : Int32} {s : hq_S} {y : (Int32 × hq_S)} (hd : 0 ≤ d) (m0_ : hq_isN k0) (h : f_X5_hadByAll_L4 n m k0 a1 a2 a3 s = some y) : hq_R (mm_O xs) d mc_X5_hadByAll 4 [some (.ref k0), some (.int a1), some (.int a2), some (.int a3)] [] s g (some (.int y.1)) y.2 := by
  induction m generalizing k0 a1 a2 a3 s with
  | zero => cases h
  | succ m ih => exact f_X5_hadByAll_L4_Brun (n := n) hd (fun k0 a1 a2 a3 s m0_ h => ih m0_ h) m0_ h
def f_X5_hadByAll (n : Nat) (k0 : Nat) (a1 : Int32) (s : hq_S) : Option (Int32 × hq_S) := f_X5_hadByAll_L4 n n k0 a1 (0 : Int32) (0 : Int32) s
theorem f_X5_hadByAll_run {xs : List Int32} {n d g : Nat} {k0 : Nat} {a1 : Int32} {s : hq_S} {y : (Int32 × hq_S)} (hd : 0 ≤ d) (m0_ : hq_isN k0) (h : f_X5_hadByAll n k0 a1 s = some y) : hq_R (mm_O xs) d mc_X5_hadByAll 0 [some (.ref k0), some (.int a1), none, none] [] s g (some (.int y.1)) y.2 := by
  unfold f_X5_hadByAll at h
  refine hq_p 4 4 [some (.ref k0), some (.int a1), some (.int (0 : Int32)), some (.int (0 : Int32))] [] (fun n h => rfl) ?_
  exact f_X5_hadByAll_L4_run hd m0_ h
def f_X10_clear (n : Nat) (k0 : Nat) (s : hq_S) : Option hq_S := (hq_pi s k0 0 0 (0 : Int32)).bind fun s1 => (hq_pi s1 k0 3 0 (0 : Int32)).bind fun s2 => (hq_pi s2 k0 6 0 (0 : Int32)).bind fun s3 => (hq_pi s3 k0 7 0 (0 : Int32)).bind fun s4 => (f_J7_fill_53178 n (k0 + 7) (0 : Int32) s4).bind fun s5 => (hq_pi s5 k0 11 0 (0 : Int32)).bind fun s6 => (hq_pi s6 k0 13 0 (100 : Int32)).bind fun s7 => (hq_pi s7 k0 14 1 (0 : Int32)).bind fun s8 => (hq_pi s8 k0 15 1 (0 : Int32)).bind fun s9 => (f_X4_clear n (k0 + 9) s9).bind fun s10 => (f_X5_clear n (k0 + 14) s10).bind fun s11 => some s11
theorem f_X10_clear_run {xs : List Int32} {n d g : Nat} {k0 : Nat} {s : hq_S} {y : hq_S} (hd : 2 ≤ d) (m0_ : hq_isT k0) (h : f_X10_clear n k0 s = some y) : hq_R (mm_O xs) d mc_X10_clear 0 [some (.ref k0)] [] s g none y := by
  unfold f_X10_clear at h
  refine hq_p 2 2 [some (.ref k0)] [.int (0 : Int32), .ref k0] (fun n h => rfl) ?_
  obtain ⟨s1, hs1, h⟩ := hq_bind h
  refine hq_pfi rfl (hq_shT m0_) rfl rfl rfl hs1 ?_
  refine hq_p 2 7 [some (.ref k0)] [.int (0 : Int32), .ref k0] (fun n h => rfl) ?_
  obtain ⟨s2, hs2, h⟩ := hq_bind h
  refine hq_pfi rfl (hq_shT m0_) rfl rfl rfl hs2 ?_
  refine hq_p 2 12 [some (.ref k0)] [.int (0 : Int32), .ref k0] (fun n h => rfl) ?_
  obtain ⟨s3, hs3, h⟩ := hq_bind h
  refine hq_pfi rfl (hq_shT m0_) rfl rfl rfl hs3 ?_
  refine hq_p 2 17 [some (.ref k0)] [.int (0 : Int32), .ref k0] (fun n h => rfl) ?_
  obtain ⟨s4, hs4, h⟩ := hq_bind h
  refine hq_pfi rfl (hq_shT m0_) rfl rfl rfl hs4 ?_
  refine hq_p 1 21 [some (.ref k0)] [.ref k0] (fun n h => rfl) ?_
  refine hq_gf (x := .ref (k0 + 7)) rfl (hq_shT m0_) rfl rfl (hq_fldr (hq_shT_u m0_)) ?_
  refine hq_p 1 25 [some (.ref k0)] [.int (0 : Int32), .ref (k0 + 7)] (fun n h => rfl) ?_
  obtain ⟨s5, hs5, h⟩ := hq_bind h
  refine hq_ist rfl rfl rfl (Nat.le_trans (by decide) hd) rfl (f_J7_fill_53178_run (Nat.le_sub_of_add_le (Nat.le_trans (by decide) hd)) hs5) rfl ?_
  refine hq_p 2 30 [some (.ref k0)] [.int (0 : Int32), .ref k0] (fun n h => rfl) ?_
  obtain ⟨s6, hs6, h⟩ := hq_bind h
  refine hq_pfi rfl (hq_shT m0_) rfl rfl rfl hs6 ?_
  refine hq_p 1 34 [some (.ref k0)] [.ref k0] (fun n h => rfl) ?_
  refine hq_bip (100 : Int32) rfl (by decide) ?_
  obtain ⟨s7, hs7, h⟩ := hq_bind h
  refine hq_pfi rfl (hq_shT m0_) rfl rfl rfl hs7 ?_
  refine hq_p 2 41 [some (.ref k0)] [.int (0 : Int32), .ref k0] (fun n h => rfl) ?_
  obtain ⟨s8, hs8, h⟩ := hq_bind h
  refine hq_pfi rfl (hq_shT m0_) rfl rfl rfl hs8 ?_
  refine hq_p 2 46 [some (.ref k0)] [.int (0 : Int32), .ref k0] (fun n h => rfl) ?_
  obtain ⟨s9, hs9, h⟩ := hq_bind h
  refine hq_pfi rfl (hq_shT m0_) rfl rfl rfl hs9 ?_
  refine hq_p 1 50 [some (.ref k0)] [.ref k0] (fun n h => rfl) ?_
  refine hq_gf (x := .ref (k0 + 9)) rfl (hq_shT m0_) rfl rfl (hq_fldr (hq_shT_u m0_)) ?_
  obtain ⟨s10, hs10, h⟩ := hq_bind h
  refine hq_inv rfl rfl (Nat.le_trans (by decide) hd) rfl rfl (hq_rcv (hq_shL (hq_shT_m9 m0_)) rfl) (f_X4_clear_run (Nat.le_sub_of_add_le (Nat.le_trans (by decide) hd)) (hq_shT_m9 m0_) hs10) rfl ?_
  refine hq_p 1 57 [some (.ref k0)] [.ref k0] (fun n h => rfl) ?_
  refine hq_gf (x := .ref (k0 + 14)) rfl (hq_shT m0_) rfl rfl (hq_fldr (hq_shT_u m0_)) ?_
  obtain ⟨s11, hs11, h⟩ := hq_bind h
  refine hq_inv rfl rfl (Nat.le_trans (by decide) hd) rfl rfl (hq_rcv (hq_shN (hq_shT_m14 m0_)) rfl) (f_X5_clear_run (Nat.le_sub_of_add_le (Nat.le_trans (by decide) hd)) (hq_shT_m14 m0_) hs11) rfl ?_
  have h := Option.some.inj h
  subst h
  exact ⟨1, rfl⟩
def f_X9_takeWord_L124_B (n : Nat) (q124 : Int32 → hq_S → Option hq_S) (a1 : Int32) (s : hq_S) : Option hq_S := if a1 < (22 : Int32) then if (hq_gi s 49 4) = (2 : Int32) then (hq_ld s 50 22 a1).bind fun x7 => (if x7 = (hq_gi s 49 5) then (hq_pi s 49 4 0 (3 : Int32)).bind fun s10 => (hq_pi s10 49 5 0 a1).bind fun s11 => some s11 else some s).bind fun z8 => q124 (a1 + (1 : Int32)) z8 else some s else some s
def f_X9_takeWord_L124 (n : Nat) (m : Nat) : Int32 → hq_S → Option hq_S := Nat.rec (fun _ _ => none) (fun _ q => f_X9_takeWord_L124_B n q) m
theorem f_X9_takeWord_L124_Brun {xs : List Int32} {n d g : Nat} {a1 : Int32} {q124 : Int32 → hq_S → Option hq_S} {s : hq_S} {y : hq_S} (hd : 0 ≤ d) (e124 : ∀ (a1 : Int32) (s : hq_S), q124 a1 s = some y → hq_R (mm_O xs) d mc_X9_takeWord 124 [some (.ref 49), some (.int a1)] [] s g none y) (h : f_X9_takeWord_L124_B n q124 a1 s = some y) : hq_R (mm_O xs) d mc_X9_takeWord 124 [some (.ref 49), some (.int a1)] [] s g none y := by
  unfold f_X9_takeWord_L124_B at h
  refine hq_p 1 125 [some (.ref 49), some (.int a1)] [.int a1] (fun n h => rfl) ?_
  refine hq_bip (22 : Int32) rfl (by decide) ?_
  by_cases c5 : a1 < (22 : Int32)
  · rw [if_pos c5] at h
    refine hq_icF rfl (hq_c_ge_F c5) ?_
    refine hq_p 1 131 [some (.ref 49), some (.int a1)] [.ref 49] (fun n h => rfl) ?_
    refine hq_gf (x := .int (hq_gi s 49 4)) rfl rfl rfl rfl rfl ?_
    refine hq_p 1 135 [some (.ref 49), some (.int a1)] [.int (2 : Int32), .int (hq_gi s 49 4)] (fun n h => rfl) ?_
    by_cases c6 : (hq_gi s 49 4) = (2 : Int32)
    · rw [if_pos c6] at h
      refine hq_icF rfl (hq_c_ne_F c6) ?_
      refine hq_p 1 139 [some (.ref 49), some (.int a1)] [.ref 49] (fun n h => rfl) ?_
      refine hq_gf (x := .ref 50) rfl rfl rfl rfl rfl ?_
      refine hq_p 1 143 [some (.ref 49), some (.int a1)] [.int a1, .ref 50] (fun n h => rfl) ?_
      obtain ⟨x7, hx7, h⟩ := hq_bind h
      refine hq_iaload rfl rfl rfl hx7 ?_
      refine hq_p 1 145 [some (.ref 49), some (.int a1)] [.ref 49, .int x7] (fun n h => rfl) ?_
      refine hq_gf (x := .int (hq_gi s 49 5)) rfl rfl rfl rfl rfl ?_
      obtain ⟨z8, hz8, h⟩ := hq_bind h
      suffices hT : hq_R (mm_O xs) d mc_X9_takeWord 161 [some (.ref 49), some (.int a1)] [] z8 g none y from by
        clear h
        have h := hz8
        by_cases c9 : x7 = (hq_gi s 49 5)
        · rw [if_pos c9] at h
          refine hq_icF rfl (hq_c_ne_F c9) ?_
          refine hq_p 2 153 [some (.ref 49), some (.int a1)] [.int (3 : Int32), .ref 49] (fun n h => rfl) ?_
          obtain ⟨s10, hs10, h⟩ := hq_bind h
          refine hq_pfi rfl rfl rfl rfl rfl hs10 ?_
          refine hq_p 2 158 [some (.ref 49), some (.int a1)] [.int a1, .ref 49] (fun n h => rfl) ?_
          obtain ⟨s11, hs11, h⟩ := hq_bind h
          refine hq_pfi rfl rfl rfl rfl rfl hs11 ?_
          cases h
          exact hT
        · rw [if_neg c9] at h
          refine hq_icT rfl (hq_c_ne_T c9) ?_
          cases h
          exact hT
      refine hq_p 2 124 [some (.ref 49), some (.int (a1 + (1 : Int32)))] [] (fun n h => rfl) ?_
      exact e124 (a1 + (1 : Int32)) z8 h
    · rw [if_neg c6] at h
      refine hq_icT rfl (hq_c_ne_T c6) ?_
      have h := Option.some.inj h
      subst h
      exact ⟨1, rfl⟩
  · rw [if_neg c5] at h
    refine hq_icT rfl (hq_c_ge_T c5) ?_
    have h := Option.some.inj h
    subst h
    exact ⟨1, rfl⟩
theorem f_X9_takeWord_L124_run {xs : List Int32} {n m d g : Nat} {a1 : Int32} {s : hq_S} {y : hq_S} (hd : 0 ≤ d) (h : f_X9_takeWord_L124 n m a1 s = some y) : hq_R (mm_O xs) d mc_X9_takeWord 124 [some (.ref 49), some (.int a1)] [] s g none y := by
  induction m generalizing a1 s with
  | zero => cases h
  | succ m ih => exact f_X9_takeWord_L124_Brun (n := n) hd (fun a1 s h => ih h) h
def f_X9_takeWord_J99 (n : Nat) (s : hq_S) : Option hq_S := (if (6 : Int32) < ((hq_gi s 49 3) - (hq_gi s 49 6)) then some (1 : Int32) else some (2 : Int32)).bind fun z2 => (hq_pi s 49 4 0 z2).bind fun s4 => f_X9_takeWord_L124 n n (0 : Int32) s4
theorem f_X9_takeWord_J99_run {xs : List Int32} {n d g : Nat} {o1 : Option Value} {s : hq_S} {y : hq_S} (hd : 0 ≤ d) (h : f_X9_takeWord_J99 n s = some y) : hq_R (mm_O xs) d mc_X9_takeWord 99 [some (.ref 49), o1] [] s g none y := by
  unfold f_X9_takeWord_J99 at h
  refine hq_p 2 101 [some (.ref 49), o1] [.ref 49, .ref 49] (fun n h => rfl) ?_
  refine hq_gf (x := .int (hq_gi s 49 3)) rfl rfl rfl rfl rfl ?_
  refine hq_p 1 105 [some (.ref 49), o1] [.ref 49, .int (hq_gi s 49 3), .ref 49] (fun n h => rfl) ?_
  refine hq_gf (x := .int (hq_gi s 49 6)) rfl rfl rfl rfl rfl ?_
  refine hq_p 2 111 [some (.ref 49), o1] [.int (6 : Int32), .int ((hq_gi s 49 3) - (hq_gi s 49 6)), .ref 49] (fun n h => rfl) ?_
  obtain ⟨z2, hz2, h⟩ := hq_bind h
  suffices hT : hq_R (mm_O xs) d mc_X9_takeWord 119 [some (.ref 49), o1] [.int z2, .ref 49] s g none y from by
    clear h
    have h := hz2
    by_cases c3 : (6 : Int32) < ((hq_gi s 49 3) - (hq_gi s 49 6))
    · rw [if_pos c3] at h
      refine hq_icF rfl (hq_c_le_F c3) ?_
      refine hq_p 2 119 [some (.ref 49), o1] [.int (1 : Int32), .ref 49] (fun n h => rfl) ?_
      cases h
      exact hT
    · rw [if_neg c3] at h
      refine hq_icT rfl (hq_c_le_T c3) ?_
      refine hq_p 1 119 [some (.ref 49), o1] [.int (2 : Int32), .ref 49] (fun n h => rfl) ?_
      cases h
      exact hT
  obtain ⟨s4, hs4, h⟩ := hq_bind h
  refine hq_pfi rfl rfl rfl rfl rfl hs4 ?_
  refine hq_p 2 124 [some (.ref 49), some (.int (0 : Int32))] [] (fun n h => rfl) ?_
  exact f_X9_takeWord_L124_run hd h
def f_X9_takeWord_L0_B (n : Nat) (q0 : hq_S → Option hq_S) (s : hq_S) : Option hq_S := if (hq_gi s 49 3) < (hq_gi s 49 2) then (hq_ldbA s (hq_gr s 49 1) (hq_gi s 49 3)).bind fun x12 => if x12 < (97 : Int32) then f_X9_takeWord_J99 n s else (hq_ldbA s (hq_gr s 49 1) (hq_gi s 49 3)).bind fun x14 => if (122 : Int32) < x14 then f_X9_takeWord_J99 n s else (if ((5 : Int32) - ((hq_gi s 49 3) - (hq_gi s 49 6))) < 0 then some (0 : Int32) else (hq_ldbA s (hq_gr s 49 1) (hq_gi s 49 3)).bind fun x18 => some (((x18 - (97 : Int32)) + (1 : Int32)) <<< (((5 : Int32) * ((5 : Int32) - ((hq_gi s 49 3) - (hq_gi s 49 6)))) &&& 31))).bind fun z16 => (hq_pi s 49 5 0 ((hq_gi s 49 5) ||| z16)).bind fun s19 => (hq_pi s19 49 3 0 ((hq_gi s19 49 3) + (1 : Int32))).bind fun s20 => q0 s20 else f_X9_takeWord_J99 n s
def f_X9_takeWord_L0 (n : Nat) (m : Nat) : hq_S → Option hq_S := Nat.rec (fun _ => none) (fun _ q => f_X9_takeWord_L0_B n q) m
theorem f_X9_takeWord_L0_Brun {xs : List Int32} {n d g : Nat} {o1 : Option Value} {q0 : hq_S → Option hq_S} {s : hq_S} {y : hq_S} (hd : 0 ≤ d) (e0 : ∀ (o1 : Option Value) (s : hq_S), q0 s = some y → hq_R (mm_O xs) d mc_X9_takeWord 0 [some (.ref 49), o1] [] s g none y) (h : f_X9_takeWord_L0_B n q0 s = some y) : hq_R (mm_O xs) d mc_X9_takeWord 0 [some (.ref 49), o1] [] s g none y := by
  unfold f_X9_takeWord_L0_B at h
  refine hq_p 1 1 [some (.ref 49), o1] [.ref 49] (fun n h => rfl) ?_
  refine hq_gf (x := .int (hq_gi s 49 3)) rfl rfl rfl rfl rfl ?_
  refine hq_p 1 5 [some (.ref 49), o1] [.ref 49, .int (hq_gi s 49 3)] (fun n h => rfl) ?_
  refine hq_gf (x := .int (hq_gi s 49 2)) rfl rfl rfl rfl rfl ?_
  by_cases c1 : (hq_gi s 49 3) < (hq_gi s 49 2)
  · rw [if_pos c1] at h
    refine hq_icF rfl (hq_c_ge_F c1) ?_
    refine hq_p 1 12 [some (.ref 49), o1] [.ref 49] (fun n h => rfl) ?_
    refine hq_gf (x := .ref (hq_gr s 49 1)) rfl rfl rfl rfl rfl ?_
    refine hq_p 1 16 [some (.ref 49), o1] [.ref 49, .ref (hq_gr s 49 1)] (fun n h => rfl) ?_
    refine hq_gf (x := .int (hq_gi s 49 3)) rfl rfl rfl rfl rfl ?_
    obtain ⟨x12, hx12, h⟩ := hq_bind h
    refine hq_baloadA rfl hx12 ?_
    refine hq_bip (97 : Int32) rfl (by decide) ?_
    by_cases c13 : x12 < (97 : Int32)
    · rw [if_pos c13] at h
      refine hq_icT rfl (hq_c_lt_T c13) ?_
      exact f_X9_takeWord_J99_run hd h
    · rw [if_neg c13] at h
      refine hq_icF rfl (hq_c_lt_F c13) ?_
      refine hq_p 1 26 [some (.ref 49), o1] [.ref 49] (fun n h => rfl) ?_
      refine hq_gf (x := .ref (hq_gr s 49 1)) rfl rfl rfl rfl rfl ?_
      refine hq_p 1 30 [some (.ref 49), o1] [.ref 49, .ref (hq_gr s 49 1)] (fun n h => rfl) ?_
      refine hq_gf (x := .int (hq_gi s 49 3)) rfl rfl rfl rfl rfl ?_
      obtain ⟨x14, hx14, h⟩ := hq_bind h
      refine hq_baloadA rfl hx14 ?_
      refine hq_bip (122 : Int32) rfl (by decide) ?_
      by_cases c15 : (122 : Int32) < x14
      · rw [if_pos c15] at h
        refine hq_icT rfl (hq_c_gt_T c15) ?_
        exact f_X9_takeWord_J99_run hd h
      · rw [if_neg c15] at h
        refine hq_icF rfl (hq_c_gt_F c15) ?_
        refine hq_p 2 41 [some (.ref 49), o1] [.ref 49, .int (5 : Int32)] (fun n h => rfl) ?_
        refine hq_gf (x := .int (hq_gi s 49 3)) rfl rfl rfl rfl rfl ?_
        refine hq_p 1 45 [some (.ref 49), o1] [.ref 49, .int (hq_gi s 49 3), .int (5 : Int32)] (fun n h => rfl) ?_
        refine hq_gf (x := .int (hq_gi s 49 6)) rfl rfl rfl rfl rfl ?_
        refine hq_p 5 53 [some (.ref 49), some (.int ((5 : Int32) - ((hq_gi s 49 3) - (hq_gi s 49 6))))] [.ref 49, .ref 49] (fun n h => rfl) ?_
        refine hq_gf (x := .int (hq_gi s 49 5)) rfl rfl rfl rfl rfl ?_
        refine hq_p 1 57 [some (.ref 49), some (.int ((5 : Int32) - ((hq_gi s 49 3) - (hq_gi s 49 6))))] [.int ((5 : Int32) - ((hq_gi s 49 3) - (hq_gi s 49 6))), .int (hq_gi s 49 5), .ref 49] (fun n h => rfl) ?_
        obtain ⟨z16, hz16, h⟩ := hq_bind h
        suffices hT : hq_R (mm_O xs) d mc_X9_takeWord 82 [some (.ref 49), some (.int ((5 : Int32) - ((hq_gi s 49 3) - (hq_gi s 49 6))))] [.int z16, .int (hq_gi s 49 5), .ref 49] s g none y from by
          clear h
          have h := hz16
          by_cases c17 : ((5 : Int32) - ((hq_gi s 49 3) - (hq_gi s 49 6))) < 0
          · rw [if_pos c17] at h
            refine hq_izF rfl (hq_c_ge_F c17) ?_
            refine hq_p 2 82 [some (.ref 49), some (.int ((5 : Int32) - ((hq_gi s 49 3) - (hq_gi s 49 6))))] [.int (0 : Int32), .int (hq_gi s 49 5), .ref 49] (fun n h => rfl) ?_
            cases h
            exact hT
          · rw [if_neg c17] at h
            refine hq_izT rfl (hq_c_ge_T c17) ?_
            refine hq_p 1 65 [some (.ref 49), some (.int ((5 : Int32) - ((hq_gi s 49 3) - (hq_gi s 49 6))))] [.ref 49, .int (hq_gi s 49 5), .ref 49] (fun n h => rfl) ?_
            refine hq_gf (x := .ref (hq_gr s 49 1)) rfl rfl rfl rfl rfl ?_
            refine hq_p 1 69 [some (.ref 49), some (.int ((5 : Int32) - ((hq_gi s 49 3) - (hq_gi s 49 6))))] [.ref 49, .ref (hq_gr s 49 1), .int (hq_gi s 49 5), .ref 49] (fun n h => rfl) ?_
            refine hq_gf (x := .int (hq_gi s 49 3)) rfl rfl rfl rfl rfl ?_
            obtain ⟨x18, hx18, h⟩ := hq_bind h
            refine hq_baloadA rfl hx18 ?_
            refine hq_bip (97 : Int32) rfl (by decide) ?_
            refine hq_p 7 82 [some (.ref 49), some (.int ((5 : Int32) - ((hq_gi s 49 3) - (hq_gi s 49 6))))] [.int (((x18 - (97 : Int32)) + (1 : Int32)) <<< (((5 : Int32) * ((5 : Int32) - ((hq_gi s 49 3) - (hq_gi s 49 6)))) &&& 31)), .int (hq_gi s 49 5), .ref 49] (fun n h => rfl) ?_
            cases h
            exact hT
        refine hq_p 1 83 [some (.ref 49), some (.int ((5 : Int32) - ((hq_gi s 49 3) - (hq_gi s 49 6))))] [.int ((hq_gi s 49 5) ||| z16), .ref 49] (fun n h => rfl) ?_
        obtain ⟨s19, hs19, h⟩ := hq_bind h
        refine hq_pfi rfl rfl rfl rfl rfl hs19 ?_
        refine hq_p 2 88 [some (.ref 49), some (.int ((5 : Int32) - ((hq_gi s 49 3) - (hq_gi s 49 6))))] [.ref 49, .ref 49] (fun n h => rfl) ?_
        refine hq_gf (x := .int (hq_gi s19 49 3)) rfl rfl rfl rfl rfl ?_
        refine hq_p 2 93 [some (.ref 49), some (.int ((5 : Int32) - ((hq_gi s 49 3) - (hq_gi s 49 6))))] [.int ((hq_gi s19 49 3) + (1 : Int32)), .ref 49] (fun n h => rfl) ?_
        obtain ⟨s20, hs20, h⟩ := hq_bind h
        refine hq_pfi rfl rfl rfl rfl rfl hs20 ?_
        refine hq_p 1 0 [some (.ref 49), some (.int ((5 : Int32) - ((hq_gi s 49 3) - (hq_gi s 49 6))))] [] (fun n h => rfl) ?_
        exact e0 _ s20 h
  · rw [if_neg c1] at h
    refine hq_icT rfl (hq_c_ge_T c1) ?_
    exact f_X9_takeWord_J99_run hd h
theorem f_X9_takeWord_L0_run {xs : List Int32} {n m d g : Nat} {o1 : Option Value} {s : hq_S} {y : hq_S} (hd : 0 ≤ d) (h : f_X9_takeWord_L0 n m s = some y) : hq_R (mm_O xs) d mc_X9_takeWord 0 [some (.ref 49), o1] [] s g none y := by
  induction m generalizing o1 s with
  | zero => cases h
  | succ m ih => exact f_X9_takeWord_L0_Brun (n := n) hd (fun o1 s h => ih h) h
def f_X9_takeWord (n : Nat) (s : hq_S) : Option hq_S := f_X9_takeWord_L0 n n s
theorem f_X9_takeWord_run {xs : List Int32} {n d g : Nat} {s : hq_S} {y : hq_S} (hd : 0 ≤ d) (h : f_X9_takeWord n s = some y) : hq_R (mm_O xs) d mc_X9_takeWord 0 [some (.ref 49), none] [] s g none y := by
  unfold f_X9_takeWord at h
  exact f_X9_takeWord_L0_run hd h
def f_X9_takeNumber_L5_B (n : Nat) (q5 : hq_S → Option hq_S) (s : hq_S) : Option hq_S := if (hq_gi s 49 3) < (hq_gi s 49 2) then (hq_ldbA s (hq_gr s 49 1) (hq_gi s 49 3)).bind fun x3 => if x3 < (48 : Int32) then some s else (hq_ldbA s (hq_gr s 49 1) (hq_gi s 49 3)).bind fun x5 => if (57 : Int32) < x5 then some s else (if (1000000 : Int32) < (hq_gi s 49 5) then some (1000000 : Int32) else (hq_ldbA s (hq_gr s 49 1) (hq_gi s 49 3)).bind fun x9 => some ((((hq_gi s 49 5) * (10 : Int32)) + x9) - (48 : Int32))).bind fun z7 => (hq_pi s 49 5 0 z7).bind fun s10 => (hq_pi s10 49 3 0 ((hq_gi s10 49 3) + (1 : Int32))).bind fun s11 => q5 s11 else some s
def f_X9_takeNumber_L5 (n : Nat) (m : Nat) : hq_S → Option hq_S := Nat.rec (fun _ => none) (fun _ q => f_X9_takeNumber_L5_B n q) m
theorem f_X9_takeNumber_L5_Brun {xs : List Int32} {n d g : Nat} {q5 : hq_S → Option hq_S} {s : hq_S} {y : hq_S} (hd : 0 ≤ d) (e5 : ∀ (s : hq_S), q5 s = some y → hq_R (mm_O xs) d mc_X9_takeNumber 5 [some (.ref 49)] [] s g none y) (h : f_X9_takeNumber_L5_B n q5 s = some y) : hq_R (mm_O xs) d mc_X9_takeNumber 5 [some (.ref 49)] [] s g none y := by
  unfold f_X9_takeNumber_L5_B at h
  refine hq_p 1 6 [some (.ref 49)] [.ref 49] (fun n h => rfl) ?_
  refine hq_gf (x := .int (hq_gi s 49 3)) rfl rfl rfl rfl rfl ?_
  refine hq_p 1 10 [some (.ref 49)] [.ref 49, .int (hq_gi s 49 3)] (fun n h => rfl) ?_
  refine hq_gf (x := .int (hq_gi s 49 2)) rfl rfl rfl rfl rfl ?_
  by_cases c2 : (hq_gi s 49 3) < (hq_gi s 49 2)
  · rw [if_pos c2] at h
    refine hq_icF rfl (hq_c_ge_F c2) ?_
    refine hq_p 1 17 [some (.ref 49)] [.ref 49] (fun n h => rfl) ?_
    refine hq_gf (x := .ref (hq_gr s 49 1)) rfl rfl rfl rfl rfl ?_
    refine hq_p 1 21 [some (.ref 49)] [.ref 49, .ref (hq_gr s 49 1)] (fun n h => rfl) ?_
    refine hq_gf (x := .int (hq_gi s 49 3)) rfl rfl rfl rfl rfl ?_
    obtain ⟨x3, hx3, h⟩ := hq_bind h
    refine hq_baloadA rfl hx3 ?_
    refine hq_bip (48 : Int32) rfl (by decide) ?_
    by_cases c4 : x3 < (48 : Int32)
    · rw [if_pos c4] at h
      refine hq_icT rfl (hq_c_lt_T c4) ?_
      have h := Option.some.inj h
      subst h
      exact ⟨1, rfl⟩
    · rw [if_neg c4] at h
      refine hq_icF rfl (hq_c_lt_F c4) ?_
      refine hq_p 1 31 [some (.ref 49)] [.ref 49] (fun n h => rfl) ?_
      refine hq_gf (x := .ref (hq_gr s 49 1)) rfl rfl rfl rfl rfl ?_
      refine hq_p 1 35 [some (.ref 49)] [.ref 49, .ref (hq_gr s 49 1)] (fun n h => rfl) ?_
      refine hq_gf (x := .int (hq_gi s 49 3)) rfl rfl rfl rfl rfl ?_
      obtain ⟨x5, hx5, h⟩ := hq_bind h
      refine hq_baloadA rfl hx5 ?_
      refine hq_bip (57 : Int32) rfl (by decide) ?_
      by_cases c6 : (57 : Int32) < x5
      · rw [if_pos c6] at h
        refine hq_icT rfl (hq_c_gt_T c6) ?_
        have h := Option.some.inj h
        subst h
        exact ⟨1, rfl⟩
      · rw [if_neg c6] at h
        refine hq_icF rfl (hq_c_gt_F c6) ?_
        refine hq_p 2 46 [some (.ref 49)] [.ref 49, .ref 49] (fun n h => rfl) ?_
        refine hq_gf (x := .int (hq_gi s 49 5)) rfl rfl rfl rfl rfl ?_
        refine hq_lcn (1000000 : Int32) rfl (by decide) ?_
        obtain ⟨z7, hz7, h⟩ := hq_bind h
        suffices hT : hq_R (mm_O xs) d mc_X9_takeNumber 79 [some (.ref 49)] [.int z7, .ref 49] s g none y from by
          clear h
          have h := hz7
          by_cases c8 : (1000000 : Int32) < (hq_gi s 49 5)
          · rw [if_pos c8] at h
            refine hq_icF rfl (hq_c_le_F c8) ?_
            refine hq_lcn (1000000 : Int32) rfl (by decide) ?_
            refine hq_p 1 79 [some (.ref 49)] [.int (1000000 : Int32), .ref 49] (fun n h => rfl) ?_
            cases h
            exact hT
          · rw [if_neg c8] at h
            refine hq_icT rfl (hq_c_le_T c8) ?_
            refine hq_p 1 60 [some (.ref 49)] [.ref 49, .ref 49] (fun n h => rfl) ?_
            refine hq_gf (x := .int (hq_gi s 49 5)) rfl rfl rfl rfl rfl ?_
            refine hq_p 3 67 [some (.ref 49)] [.ref 49, .int ((hq_gi s 49 5) * (10 : Int32)), .ref 49] (fun n h => rfl) ?_
            refine hq_gf (x := .ref (hq_gr s 49 1)) rfl rfl rfl rfl rfl ?_
            refine hq_p 1 71 [some (.ref 49)] [.ref 49, .ref (hq_gr s 49 1), .int ((hq_gi s 49 5) * (10 : Int32)), .ref 49] (fun n h => rfl) ?_
            refine hq_gf (x := .int (hq_gi s 49 3)) rfl rfl rfl rfl rfl ?_
            obtain ⟨x9, hx9, h⟩ := hq_bind h
            refine hq_baloadA rfl hx9 ?_
            refine hq_p 1 76 [some (.ref 49)] [.int (((hq_gi s 49 5) * (10 : Int32)) + x9), .ref 49] (fun n h => rfl) ?_
            refine hq_bip (48 : Int32) rfl (by decide) ?_
            refine hq_p 1 79 [some (.ref 49)] [.int ((((hq_gi s 49 5) * (10 : Int32)) + x9) - (48 : Int32)), .ref 49] (fun n h => rfl) ?_
            cases h
            exact hT
        obtain ⟨s10, hs10, h⟩ := hq_bind h
        refine hq_pfi rfl rfl rfl rfl rfl hs10 ?_
        refine hq_p 2 84 [some (.ref 49)] [.ref 49, .ref 49] (fun n h => rfl) ?_
        refine hq_gf (x := .int (hq_gi s10 49 3)) rfl rfl rfl rfl rfl ?_
        refine hq_p 2 89 [some (.ref 49)] [.int ((hq_gi s10 49 3) + (1 : Int32)), .ref 49] (fun n h => rfl) ?_
        obtain ⟨s11, hs11, h⟩ := hq_bind h
        refine hq_pfi rfl rfl rfl rfl rfl hs11 ?_
        refine hq_p 1 5 [some (.ref 49)] [] (fun n h => rfl) ?_
        exact e5 s11 h
  · rw [if_neg c2] at h
    refine hq_icT rfl (hq_c_ge_T c2) ?_
    have h := Option.some.inj h
    subst h
    exact ⟨1, rfl⟩
theorem f_X9_takeNumber_L5_run {xs : List Int32} {n m d g : Nat} {s : hq_S} {y : hq_S} (hd : 0 ≤ d) (h : f_X9_takeNumber_L5 n m s = some y) : hq_R (mm_O xs) d mc_X9_takeNumber 5 [some (.ref 49)] [] s g none y := by
  induction m generalizing s with
  | zero => cases h
  | succ m ih => exact f_X9_takeNumber_L5_Brun (n := n) hd (fun s h => ih h) h
def f_X9_takeNumber (n : Nat) (s : hq_S) : Option hq_S := (hq_pi s 49 4 0 (4 : Int32)).bind fun s1 => f_X9_takeNumber_L5 n n s1
theorem f_X9_takeNumber_run {xs : List Int32} {n d g : Nat} {s : hq_S} {y : hq_S} (hd : 0 ≤ d) (h : f_X9_takeNumber n s = some y) : hq_R (mm_O xs) d mc_X9_takeNumber 0 [some (.ref 49)] [] s g none y := by
  unfold f_X9_takeNumber at h
  refine hq_p 2 2 [some (.ref 49)] [.int (4 : Int32), .ref 49] (fun n h => rfl) ?_
  obtain ⟨s1, hs1, h⟩ := hq_bind h
  refine hq_pfi rfl rfl rfl rfl rfl hs1 ?_
  exact f_X9_takeNumber_L5_run hd h
def f_X9_isSign (n : Nat) (a0 : Int32) (s : hq_S) : Option (Int32 × hq_S) := if a0 = (40 : Int32) then some ((1 : Int32), s) else if a0 = (41 : Int32) then some ((1 : Int32), s) else if a0 = (42 : Int32) then some ((1 : Int32), s) else if a0 = (43 : Int32) then some ((1 : Int32), s) else if a0 = (44 : Int32) then some ((0 : Int32), s) else if a0 = (45 : Int32) then some ((1 : Int32), s) else if a0 = (46 : Int32) then some ((0 : Int32), s) else if a0 = (47 : Int32) then some ((1 : Int32), s) else if a0 = (48 : Int32) then some ((0 : Int32), s) else if a0 = (49 : Int32) then some ((0 : Int32), s) else if a0 = (50 : Int32) then some ((0 : Int32), s) else if a0 = (51 : Int32) then some ((0 : Int32), s) else if a0 = (52 : Int32) then some ((0 : Int32), s) else if a0 = (53 : Int32) then some ((0 : Int32), s) else if a0 = (54 : Int32) then some ((0 : Int32), s) else if a0 = (55 : Int32) then some ((0 : Int32), s) else if a0 = (56 : Int32) then some ((0 : Int32), s) else if a0 = (57 : Int32) then some ((0 : Int32), s) else if a0 = (58 : Int32) then some ((0 : Int32), s) else if a0 = (59 : Int32) then some ((1 : Int32), s) else if a0 = (60 : Int32) then some ((1 : Int32), s) else if a0 = (61 : Int32) then some ((1 : Int32), s) else if a0 = (62 : Int32) then some ((1 : Int32), s) else some ((0 : Int32), s)
theorem f_X9_isSign_run {xs : List Int32} {n d g : Nat} {a0 : Int32} {s : hq_S} {y : (Int32 × hq_S)} (hd : 0 ≤ d) (h : f_X9_isSign n a0 s = some y) : hq_R (mm_O xs) d mc_X9_isSign 0 [some (.int a0)] [] s g (some (.int y.1)) y.2 := by
  unfold f_X9_isSign at h
  refine hq_p 1 1 [some (.int a0)] [.int a0] (fun n h => rfl) ?_
  by_cases c1 : a0 = (40 : Int32)
  · rw [if_pos c1] at h
    refine hq_tsw rfl (show _ = some 108 from by rw [c1]; decide) ?_
    refine hq_p 1 109 [some (.int a0)] [.int (1 : Int32)] (fun n h => rfl) ?_
    have h := Option.some.inj h
    subst h
    exact ⟨1, rfl⟩
  rw [if_neg c1] at h
  by_cases c2 : a0 = (41 : Int32)
  · rw [if_pos c2] at h
    refine hq_tsw rfl (show _ = some 108 from by rw [c2]; decide) ?_
    refine hq_p 1 109 [some (.int a0)] [.int (1 : Int32)] (fun n h => rfl) ?_
    have h := Option.some.inj h
    subst h
    exact ⟨1, rfl⟩
  rw [if_neg c2] at h
  by_cases c3 : a0 = (42 : Int32)
  · rw [if_pos c3] at h
    refine hq_tsw rfl (show _ = some 108 from by rw [c3]; decide) ?_
    refine hq_p 1 109 [some (.int a0)] [.int (1 : Int32)] (fun n h => rfl) ?_
    have h := Option.some.inj h
    subst h
    exact ⟨1, rfl⟩
  rw [if_neg c3] at h
  by_cases c4 : a0 = (43 : Int32)
  · rw [if_pos c4] at h
    refine hq_tsw rfl (show _ = some 108 from by rw [c4]; decide) ?_
    refine hq_p 1 109 [some (.int a0)] [.int (1 : Int32)] (fun n h => rfl) ?_
    have h := Option.some.inj h
    subst h
    exact ⟨1, rfl⟩
  rw [if_neg c4] at h
  by_cases c5 : a0 = (44 : Int32)
  · rw [if_pos c5] at h
    refine hq_tsw rfl (show _ = some 110 from by rw [c5]; decide) ?_
    refine hq_p 1 111 [some (.int a0)] [.int (0 : Int32)] (fun n h => rfl) ?_
    have h := Option.some.inj h
    subst h
    exact ⟨1, rfl⟩
  rw [if_neg c5] at h
  by_cases c6 : a0 = (45 : Int32)
  · rw [if_pos c6] at h
    refine hq_tsw rfl (show _ = some 108 from by rw [c6]; decide) ?_
    refine hq_p 1 109 [some (.int a0)] [.int (1 : Int32)] (fun n h => rfl) ?_
    have h := Option.some.inj h
    subst h
    exact ⟨1, rfl⟩
  rw [if_neg c6] at h
  by_cases c7 : a0 = (46 : Int32)
  · rw [if_pos c7] at h
    refine hq_tsw rfl (show _ = some 110 from by rw [c7]; decide) ?_
    refine hq_p 1 111 [some (.int a0)] [.int (0 : Int32)] (fun n h => rfl) ?_
    have h := Option.some.inj h
    subst h
    exact ⟨1, rfl⟩
  rw [if_neg c7] at h
  by_cases c8 : a0 = (47 : Int32)
  · rw [if_pos c8] at h
    refine hq_tsw rfl (show _ = some 108 from by rw [c8]; decide) ?_
    refine hq_p 1 109 [some (.int a0)] [.int (1 : Int32)] (fun n h => rfl) ?_
    have h := Option.some.inj h
    subst h
    exact ⟨1, rfl⟩
  rw [if_neg c8] at h
  by_cases c9 : a0 = (48 : Int32)
  · rw [if_pos c9] at h
    refine hq_tsw rfl (show _ = some 110 from by rw [c9]; decide) ?_
    refine hq_p 1 111 [some (.int a0)] [.int (0 : Int32)] (fun n h => rfl) ?_
    have h := Option.some.inj h
    subst h
    exact ⟨1, rfl⟩
  rw [if_neg c9] at h
  by_cases c10 : a0 = (49 : Int32)
  · rw [if_pos c10] at h
    refine hq_tsw rfl (show _ = some 110 from by rw [c10]; decide) ?_
    refine hq_p 1 111 [some (.int a0)] [.int (0 : Int32)] (fun n h => rfl) ?_
    have h := Option.some.inj h
    subst h
    exact ⟨1, rfl⟩
  rw [if_neg c10] at h
  by_cases c11 : a0 = (50 : Int32)
  · rw [if_pos c11] at h
    refine hq_tsw rfl (show _ = some 110 from by rw [c11]; decide) ?_
    refine hq_p 1 111 [some (.int a0)] [.int (0 : Int32)] (fun n h => rfl) ?_
    have h := Option.some.inj h
    subst h
    exact ⟨1, rfl⟩
  rw [if_neg c11] at h
  by_cases c12 : a0 = (51 : Int32)
  · rw [if_pos c12] at h
    refine hq_tsw rfl (show _ = some 110 from by rw [c12]; decide) ?_
    refine hq_p 1 111 [some (.int a0)] [.int (0 : Int32)] (fun n h => rfl) ?_
    have h := Option.some.inj h
    subst h
    exact ⟨1, rfl⟩
  rw [if_neg c12] at h
  by_cases c13 : a0 = (52 : Int32)
  · rw [if_pos c13] at h
    refine hq_tsw rfl (show _ = some 110 from by rw [c13]; decide) ?_
    refine hq_p 1 111 [some (.int a0)] [.int (0 : Int32)] (fun n h => rfl) ?_
    have h := Option.some.inj h
    subst h
    exact ⟨1, rfl⟩
  rw [if_neg c13] at h
  by_cases c14 : a0 = (53 : Int32)
  · rw [if_pos c14] at h
    refine hq_tsw rfl (show _ = some 110 from by rw [c14]; decide) ?_
    refine hq_p 1 111 [some (.int a0)] [.int (0 : Int32)] (fun n h => rfl) ?_
    have h := Option.some.inj h
    subst h
    exact ⟨1, rfl⟩
  rw [if_neg c14] at h
  by_cases c15 : a0 = (54 : Int32)
  · rw [if_pos c15] at h
    refine hq_tsw rfl (show _ = some 110 from by rw [c15]; decide) ?_
    refine hq_p 1 111 [some (.int a0)] [.int (0 : Int32)] (fun n h => rfl) ?_
    have h := Option.some.inj h
    subst h
    exact ⟨1, rfl⟩
  rw [if_neg c15] at h
  by_cases c16 : a0 = (55 : Int32)
  · rw [if_pos c16] at h
    refine hq_tsw rfl (show _ = some 110 from by rw [c16]; decide) ?_
    refine hq_p 1 111 [some (.int a0)] [.int (0 : Int32)] (fun n h => rfl) ?_
    have h := Option.some.inj h
    subst h
    exact ⟨1, rfl⟩
  rw [if_neg c16] at h
  by_cases c17 : a0 = (56 : Int32)
  · rw [if_pos c17] at h
    refine hq_tsw rfl (show _ = some 110 from by rw [c17]; decide) ?_
    refine hq_p 1 111 [some (.int a0)] [.int (0 : Int32)] (fun n h => rfl) ?_
    have h := Option.some.inj h
    subst h
    exact ⟨1, rfl⟩
  rw [if_neg c17] at h
  by_cases c18 : a0 = (57 : Int32)
  · rw [if_pos c18] at h
    refine hq_tsw rfl (show _ = some 110 from by rw [c18]; decide) ?_
    refine hq_p 1 111 [some (.int a0)] [.int (0 : Int32)] (fun n h => rfl) ?_
    have h := Option.some.inj h
    subst h
    exact ⟨1, rfl⟩
  rw [if_neg c18] at h
  by_cases c19 : a0 = (58 : Int32)
  · rw [if_pos c19] at h
    refine hq_tsw rfl (show _ = some 110 from by rw [c19]; decide) ?_
    refine hq_p 1 111 [some (.int a0)] [.int (0 : Int32)] (fun n h => rfl) ?_
    have h := Option.some.inj h
    subst h
    exact ⟨1, rfl⟩
  rw [if_neg c19] at h
  by_cases c20 : a0 = (59 : Int32)
  · rw [if_pos c20] at h
    refine hq_tsw rfl (show _ = some 108 from by rw [c20]; decide) ?_
    refine hq_p 1 109 [some (.int a0)] [.int (1 : Int32)] (fun n h => rfl) ?_
    have h := Option.some.inj h
    subst h
    exact ⟨1, rfl⟩
  rw [if_neg c20] at h
  by_cases c21 : a0 = (60 : Int32)
  · rw [if_pos c21] at h
    refine hq_tsw rfl (show _ = some 108 from by rw [c21]; decide) ?_
    refine hq_p 1 109 [some (.int a0)] [.int (1 : Int32)] (fun n h => rfl) ?_
    have h := Option.some.inj h
    subst h
    exact ⟨1, rfl⟩
  rw [if_neg c21] at h
  by_cases c22 : a0 = (61 : Int32)
  · rw [if_pos c22] at h
    refine hq_tsw rfl (show _ = some 108 from by rw [c22]; decide) ?_
    refine hq_p 1 109 [some (.int a0)] [.int (1 : Int32)] (fun n h => rfl) ?_
    have h := Option.some.inj h
    subst h
    exact ⟨1, rfl⟩
  rw [if_neg c22] at h
  by_cases c23 : a0 = (62 : Int32)
  · rw [if_pos c23] at h
    refine hq_tsw rfl (show _ = some 108 from by rw [c23]; decide) ?_
    refine hq_p 1 109 [some (.int a0)] [.int (1 : Int32)] (fun n h => rfl) ?_
    have h := Option.some.inj h
    subst h
    exact ⟨1, rfl⟩
  rw [if_neg c23] at h
  refine hq_tsw rfl (hq_tsw_d [(40 : Int32), (41 : Int32), (42 : Int32), (43 : Int32), (44 : Int32), (45 : Int32), (46 : Int32), (47 : Int32), (48 : Int32), (49 : Int32), (50 : Int32), (51 : Int32), (52 : Int32), (53 : Int32), (54 : Int32), (55 : Int32), (56 : Int32), (57 : Int32), (58 : Int32), (59 : Int32), (60 : Int32), (61 : Int32), (62 : Int32)] (by decide) rfl ⟨c1, c2, c3, c4, c5, c6, c7, c8, c9, c10, c11, c12, c13, c14, c15, c16, c17, c18, c19, c20, c21, c22, c23, trivial⟩) ?_
  refine hq_p 1 111 [some (.int a0)] [.int (0 : Int32)] (fun n h => rfl) ?_
  have h := Option.some.inj h
  subst h
  exact ⟨1, rfl⟩
def f_X9_takeSign_J104 (n : Nat) (a1 : Int32) (a2 : Int32) (s : hq_S) : Option hq_S := if a1 = (62 : Int32) then if a2 = (61 : Int32) then (hq_pi s 49 5 0 (258 : Int32)).bind fun s10 => (hq_pi s10 49 3 0 ((hq_gi s10 49 3) + (1 : Int32))).bind fun s11 => some s11 else some s else some s
theorem f_X9_takeSign_J104_run {xs : List Int32} {n d g : Nat} {a1 : Int32} {a2 : Int32} {s : hq_S} {y : hq_S} (hd : 0 ≤ d) (h : f_X9_takeSign_J104 n a1 a2 s = some y) : hq_R (mm_O xs) d mc_X9_takeSign 104 [some (.ref 49), some (.int a1), some (.int a2)] [] s g none y := by
  unfold f_X9_takeSign_J104 at h
  refine hq_p 1 105 [some (.ref 49), some (.int a1), some (.int a2)] [.int a1] (fun n h => rfl) ?_
  refine hq_bip (62 : Int32) rfl (by decide) ?_
  by_cases c8 : a1 = (62 : Int32)
  · rw [if_pos c8] at h
    refine hq_icF rfl (hq_c_ne_F c8) ?_
    refine hq_p 1 111 [some (.ref 49), some (.int a1), some (.int a2)] [.int a2] (fun n h => rfl) ?_
    refine hq_bip (61 : Int32) rfl (by decide) ?_
    by_cases c9 : a2 = (61 : Int32)
    · rw [if_pos c9] at h
      refine hq_icF rfl (hq_c_ne_F c9) ?_
      refine hq_p 1 117 [some (.ref 49), some (.int a1), some (.int a2)] [.ref 49] (fun n h => rfl) ?_
      refine hq_sip (258 : Int32) rfl (by decide) ?_
      obtain ⟨s10, hs10, h⟩ := hq_bind h
      refine hq_pfi rfl rfl rfl rfl rfl hs10 ?_
      refine hq_p 2 125 [some (.ref 49), some (.int a1), some (.int a2)] [.ref 49, .ref 49] (fun n h => rfl) ?_
      refine hq_gf (x := .int (hq_gi s10 49 3)) rfl rfl rfl rfl rfl ?_
      refine hq_p 2 130 [some (.ref 49), some (.int a1), some (.int a2)] [.int ((hq_gi s10 49 3) + (1 : Int32)), .ref 49] (fun n h => rfl) ?_
      obtain ⟨s11, hs11, h⟩ := hq_bind h
      refine hq_pfi rfl rfl rfl rfl rfl hs11 ?_
      have h := Option.some.inj h
      subst h
      exact ⟨1, rfl⟩
    · rw [if_neg c9] at h
      refine hq_icT rfl (hq_c_ne_T c9) ?_
      have h := Option.some.inj h
      subst h
      exact ⟨1, rfl⟩
  · rw [if_neg c8] at h
    refine hq_icT rfl (hq_c_ne_T c8) ?_
    have h := Option.some.inj h
    subst h
    exact ⟨1, rfl⟩
def f_X9_takeSign_J72 (n : Nat) (a1 : Int32) (a2 : Int32) (s : hq_S) : Option hq_S := if a1 = (60 : Int32) then if a2 = (62 : Int32) then (hq_pi s 49 5 0 (257 : Int32)).bind fun s13 => (hq_pi s13 49 3 0 ((hq_gi s13 49 3) + (1 : Int32))).bind fun s14 => some s14 else f_X9_takeSign_J104 n a1 a2 s else f_X9_takeSign_J104 n a1 a2 s
theorem f_X9_takeSign_J72_run {xs : List Int32} {n d g : Nat} {a1 : Int32} {a2 : Int32} {s : hq_S} {y : hq_S} (hd : 0 ≤ d) (h : f_X9_takeSign_J72 n a1 a2 s = some y) : hq_R (mm_O xs) d mc_X9_takeSign 72 [some (.ref 49), some (.int a1), some (.int a2)] [] s g none y := by
  unfold f_X9_takeSign_J72 at h
  refine hq_p 1 73 [some (.ref 49), some (.int a1), some (.int a2)] [.int a1] (fun n h => rfl) ?_
  refine hq_bip (60 : Int32) rfl (by decide) ?_
  by_cases c7 : a1 = (60 : Int32)
  · rw [if_pos c7] at h
    refine hq_icF rfl (hq_c_ne_F c7) ?_
    refine hq_p 1 79 [some (.ref 49), some (.int a1), some (.int a2)] [.int a2] (fun n h => rfl) ?_
    refine hq_bip (62 : Int32) rfl (by decide) ?_
    by_cases c12 : a2 = (62 : Int32)
    · rw [if_pos c12] at h
      refine hq_icF rfl (hq_c_ne_F c12) ?_
      refine hq_p 1 85 [some (.ref 49), some (.int a1), some (.int a2)] [.ref 49] (fun n h => rfl) ?_
      refine hq_sip (257 : Int32) rfl (by decide) ?_
      obtain ⟨s13, hs13, h⟩ := hq_bind h
      refine hq_pfi rfl rfl rfl rfl rfl hs13 ?_
      refine hq_p 2 93 [some (.ref 49), some (.int a1), some (.int a2)] [.ref 49, .ref 49] (fun n h => rfl) ?_
      refine hq_gf (x := .int (hq_gi s13 49 3)) rfl rfl rfl rfl rfl ?_
      refine hq_p 2 98 [some (.ref 49), some (.int a1), some (.int a2)] [.int ((hq_gi s13 49 3) + (1 : Int32)), .ref 49] (fun n h => rfl) ?_
      obtain ⟨s14, hs14, h⟩ := hq_bind h
      refine hq_pfi rfl rfl rfl rfl rfl hs14 ?_
      refine hq_p 1 133 [some (.ref 49), some (.int a1), some (.int a2)] [] (fun n h => rfl) ?_
      have h := Option.some.inj h
      subst h
      exact ⟨1, rfl⟩
    · rw [if_neg c12] at h
      refine hq_icT rfl (hq_c_ne_T c12) ?_
      exact f_X9_takeSign_J104_run hd h
  · rw [if_neg c7] at h
    refine hq_icT rfl (hq_c_ne_T c7) ?_
    exact f_X9_takeSign_J104_run hd h
def f_X9_takeSign (n : Nat) (a1 : Int32) (s : hq_S) : Option hq_S := (hq_pi s 49 3 0 ((hq_gi s 49 3) + (1 : Int32))).bind fun s1 => (hq_pi s1 49 5 0 a1).bind fun s2 => (if (hq_gi s2 49 3) < (hq_gi s2 49 2) then (hq_ldbA s2 (hq_gr s2 49 1) (hq_gi s2 49 3)).bind fun x5 => some x5 else some (0 : Int32)).bind fun z3 => if a1 = (60 : Int32) then if z3 = (61 : Int32) then (hq_pi s2 49 5 0 (256 : Int32)).bind fun s16 => (hq_pi s16 49 3 0 ((hq_gi s16 49 3) + (1 : Int32))).bind fun s17 => some s17 else f_X9_takeSign_J72 n a1 z3 s2 else f_X9_takeSign_J72 n a1 z3 s2
theorem f_X9_takeSign_run {xs : List Int32} {n d g : Nat} {a1 : Int32} {s : hq_S} {y : hq_S} (hd : 0 ≤ d) (h : f_X9_takeSign n a1 s = some y) : hq_R (mm_O xs) d mc_X9_takeSign 0 [some (.ref 49), some (.int a1), none] [] s g none y := by
  unfold f_X9_takeSign at h
  refine hq_p 2 2 [some (.ref 49), some (.int a1), none] [.ref 49, .ref 49] (fun n h => rfl) ?_
  refine hq_gf (x := .int (hq_gi s 49 3)) rfl rfl rfl rfl rfl ?_
  refine hq_p 2 7 [some (.ref 49), some (.int a1), none] [.int ((hq_gi s 49 3) + (1 : Int32)), .ref 49] (fun n h => rfl) ?_
  obtain ⟨s1, hs1, h⟩ := hq_bind h
  refine hq_pfi rfl rfl rfl rfl rfl hs1 ?_
  refine hq_p 2 12 [some (.ref 49), some (.int a1), none] [.int a1, .ref 49] (fun n h => rfl) ?_
  obtain ⟨s2, hs2, h⟩ := hq_bind h
  refine hq_pfi rfl rfl rfl rfl rfl hs2 ?_
  refine hq_p 1 16 [some (.ref 49), some (.int a1), none] [.ref 49] (fun n h => rfl) ?_
  refine hq_gf (x := .int (hq_gi s2 49 3)) rfl rfl rfl rfl rfl ?_
  refine hq_p 1 20 [some (.ref 49), some (.int a1), none] [.ref 49, .int (hq_gi s2 49 3)] (fun n h => rfl) ?_
  refine hq_gf (x := .int (hq_gi s2 49 2)) rfl rfl rfl rfl rfl ?_
  obtain ⟨z3, hz3, h⟩ := hq_bind h
  suffices hT : hq_R (mm_O xs) d mc_X9_takeSign 39 [some (.ref 49), some (.int a1), none] [.int z3] s2 g none y from by
    clear h
    have h := hz3
    by_cases c4 : (hq_gi s2 49 3) < (hq_gi s2 49 2)
    · rw [if_pos c4] at h
      refine hq_icF rfl (hq_c_ge_F c4) ?_
      refine hq_p 1 27 [some (.ref 49), some (.int a1), none] [.ref 49] (fun n h => rfl) ?_
      refine hq_gf (x := .ref (hq_gr s2 49 1)) rfl rfl rfl rfl rfl ?_
      refine hq_p 1 31 [some (.ref 49), some (.int a1), none] [.ref 49, .ref (hq_gr s2 49 1)] (fun n h => rfl) ?_
      refine hq_gf (x := .int (hq_gi s2 49 3)) rfl rfl rfl rfl rfl ?_
      obtain ⟨x5, hx5, h⟩ := hq_bind h
      refine hq_baloadA rfl hx5 ?_
      refine hq_p 1 39 [some (.ref 49), some (.int a1), none] [.int x5] (fun n h => rfl) ?_
      cases h
      exact hT
    · rw [if_neg c4] at h
      refine hq_icT rfl (hq_c_ge_T c4) ?_
      refine hq_p 1 39 [some (.ref 49), some (.int a1), none] [.int (0 : Int32)] (fun n h => rfl) ?_
      cases h
      exact hT
  refine hq_p 2 41 [some (.ref 49), some (.int a1), some (.int z3)] [.int a1] (fun n h => rfl) ?_
  refine hq_bip (60 : Int32) rfl (by decide) ?_
  by_cases c6 : a1 = (60 : Int32)
  · rw [if_pos c6] at h
    refine hq_icF rfl (hq_c_ne_F c6) ?_
    refine hq_p 1 47 [some (.ref 49), some (.int a1), some (.int z3)] [.int z3] (fun n h => rfl) ?_
    refine hq_bip (61 : Int32) rfl (by decide) ?_
    by_cases c15 : z3 = (61 : Int32)
    · rw [if_pos c15] at h
      refine hq_icF rfl (hq_c_ne_F c15) ?_
      refine hq_p 1 53 [some (.ref 49), some (.int a1), some (.int z3)] [.ref 49] (fun n h => rfl) ?_
      refine hq_sip (256 : Int32) rfl (by decide) ?_
      obtain ⟨s16, hs16, h⟩ := hq_bind h
      refine hq_pfi rfl rfl rfl rfl rfl hs16 ?_
      refine hq_p 2 61 [some (.ref 49), some (.int a1), some (.int z3)] [.ref 49, .ref 49] (fun n h => rfl) ?_
      refine hq_gf (x := .int (hq_gi s16 49 3)) rfl rfl rfl rfl rfl ?_
      refine hq_p 2 66 [some (.ref 49), some (.int a1), some (.int z3)] [.int ((hq_gi s16 49 3) + (1 : Int32)), .ref 49] (fun n h => rfl) ?_
      obtain ⟨s17, hs17, h⟩ := hq_bind h
      refine hq_pfi rfl rfl rfl rfl rfl hs17 ?_
      refine hq_p 1 133 [some (.ref 49), some (.int a1), some (.int z3)] [] (fun n h => rfl) ?_
      have h := Option.some.inj h
      subst h
      exact ⟨1, rfl⟩
    · rw [if_neg c15] at h
      refine hq_icT rfl (hq_c_ne_T c15) ?_
      exact f_X9_takeSign_J72_run hd h
  · rw [if_neg c6] at h
    refine hq_icT rfl (hq_c_ne_T c6) ?_
    exact f_X9_takeSign_J72_run hd h
def f_X9_advance_J147 (n : Nat) (a1 : Int32) (s : hq_S) : Option hq_S := (f_X9_isSign n a1 s).bind fun y10 => (if y10.1 = 0 then some (1 : Int32) else some (5 : Int32)).bind fun z11 => (hq_pi y10.2 49 4 0 z11).bind fun s13 => (f_X9_takeSign n a1 s13).bind fun s14 => some s14
theorem f_X9_advance_J147_run {xs : List Int32} {n d g : Nat} {a1 : Int32} {s : hq_S} {y : hq_S} (hd : 1 ≤ d) (h : f_X9_advance_J147 n a1 s = some y) : hq_R (mm_O xs) d mc_X9_advance 147 [some (.ref 49), some (.int a1)] [] s g none y := by
  unfold f_X9_advance_J147 at h
  refine hq_p 2 149 [some (.ref 49), some (.int a1)] [.int a1, .ref 49] (fun n h => rfl) ?_
  obtain ⟨y10, hy10, h⟩ := hq_bind h
  refine hq_ist rfl rfl rfl (Nat.le_trans (by decide) hd) rfl (f_X9_isSign_run (Nat.le_sub_of_add_le (Nat.le_trans (by decide) hd)) hy10) rfl ?_
  obtain ⟨z11, hz11, h⟩ := hq_bind h
  suffices hT : hq_R (mm_O xs) d mc_X9_advance 160 [some (.ref 49), some (.int a1)] [.int z11, .ref 49] y10.2 g none y from by
    clear h
    have h := hz11
    by_cases c12 : y10.1 = 0
    · rw [if_pos c12] at h
      refine hq_izT rfl (hq_c_eq_T c12) ?_
      refine hq_p 1 160 [some (.ref 49), some (.int a1)] [.int (1 : Int32), .ref 49] (fun n h => rfl) ?_
      cases h
      exact hT
    · rw [if_neg c12] at h
      refine hq_izF rfl (hq_c_eq_F c12) ?_
      refine hq_p 2 160 [some (.ref 49), some (.int a1)] [.int (5 : Int32), .ref 49] (fun n h => rfl) ?_
      cases h
      exact hT
  obtain ⟨s13, hs13, h⟩ := hq_bind h
  refine hq_pfi rfl rfl rfl rfl rfl hs13 ?_
  refine hq_p 2 165 [some (.ref 49), some (.int a1)] [.int a1, .ref 49] (fun n h => rfl) ?_
  obtain ⟨s14, hs14, h⟩ := hq_bind h
  refine hq_inv rfl rfl (Nat.le_trans (by decide) hd) rfl rfl (hq_rcv rfl rfl) (f_X9_takeSign_run (Nat.le_sub_of_add_le (Nat.le_trans (by decide) hd)) hs14) rfl ?_
  have h := Option.some.inj h
  subst h
  exact ⟨1, rfl⟩
def f_X9_advance_J128 (n : Nat) (a1 : Int32) (s : hq_S) : Option hq_S := if a1 < (48 : Int32) then f_X9_advance_J147 n a1 s else if (57 : Int32) < a1 then f_X9_advance_J147 n a1 s else (f_X9_takeNumber n s).bind fun s16 => some s16
theorem f_X9_advance_J128_run {xs : List Int32} {n d g : Nat} {a1 : Int32} {s : hq_S} {y : hq_S} (hd : 1 ≤ d) (h : f_X9_advance_J128 n a1 s = some y) : hq_R (mm_O xs) d mc_X9_advance 128 [some (.ref 49), some (.int a1)] [] s g none y := by
  unfold f_X9_advance_J128 at h
  refine hq_p 1 129 [some (.ref 49), some (.int a1)] [.int a1] (fun n h => rfl) ?_
  refine hq_bip (48 : Int32) rfl (by decide) ?_
  by_cases c9 : a1 < (48 : Int32)
  · rw [if_pos c9] at h
    refine hq_icT rfl (hq_c_lt_T c9) ?_
    exact f_X9_advance_J147_run hd h
  · rw [if_neg c9] at h
    refine hq_icF rfl (hq_c_lt_F c9) ?_
    refine hq_p 1 135 [some (.ref 49), some (.int a1)] [.int a1] (fun n h => rfl) ?_
    refine hq_bip (57 : Int32) rfl (by decide) ?_
    by_cases c15 : (57 : Int32) < a1
    · rw [if_pos c15] at h
      refine hq_icT rfl (hq_c_gt_T c15) ?_
      exact f_X9_advance_J147_run hd h
    · rw [if_neg c15] at h
      refine hq_icF rfl (hq_c_gt_F c15) ?_
      refine hq_p 1 141 [some (.ref 49), some (.int a1)] [.ref 49] (fun n h => rfl) ?_
      obtain ⟨s16, hs16, h⟩ := hq_bind h
      refine hq_inv rfl rfl (Nat.le_trans (by decide) hd) rfl rfl (hq_rcv rfl rfl) (f_X9_takeNumber_run (Nat.le_sub_of_add_le (Nat.le_trans (by decide) hd)) hs16) rfl ?_
      refine hq_p 1 168 [some (.ref 49), some (.int a1)] [] (fun n h => rfl) ?_
      have h := Option.some.inj h
      subst h
      exact ⟨1, rfl⟩
def f_X9_advance_J52 (n : Nat) (s : hq_S) : Option hq_S := (hq_pi s 49 6 0 (hq_gi s 49 3)).bind fun s2 => (hq_pi s2 49 5 0 (0 : Int32)).bind fun s3 => (if (hq_gi s3 49 3) < (hq_gi s3 49 2) then (hq_ldbA s3 (hq_gr s3 49 1) (hq_gi s3 49 3)).bind fun x6 => some x6 else some (0 : Int32)).bind fun z4 => if (hq_gi s3 49 3) < (hq_gi s3 49 2) then if z4 < (97 : Int32) then f_X9_advance_J128 n z4 s3 else if (122 : Int32) < z4 then f_X9_advance_J128 n z4 s3 else (f_X9_takeWord n s3).bind fun s18 => some s18 else (hq_pi s3 49 4 0 (0 : Int32)).bind fun s19 => some s19
theorem f_X9_advance_J52_run {xs : List Int32} {n d g : Nat} {s : hq_S} {y : hq_S} (hd : 1 ≤ d) (h : f_X9_advance_J52 n s = some y) : hq_R (mm_O xs) d mc_X9_advance 52 [some (.ref 49), none] [] s g none y := by
  unfold f_X9_advance_J52 at h
  refine hq_p 2 54 [some (.ref 49), none] [.ref 49, .ref 49] (fun n h => rfl) ?_
  refine hq_gf (x := .int (hq_gi s 49 3)) rfl rfl rfl rfl rfl ?_
  obtain ⟨s2, hs2, h⟩ := hq_bind h
  refine hq_pfi rfl rfl rfl rfl rfl hs2 ?_
  refine hq_p 2 62 [some (.ref 49), none] [.int (0 : Int32), .ref 49] (fun n h => rfl) ?_
  obtain ⟨s3, hs3, h⟩ := hq_bind h
  refine hq_pfi rfl rfl rfl rfl rfl hs3 ?_
  refine hq_p 1 66 [some (.ref 49), none] [.ref 49] (fun n h => rfl) ?_
  refine hq_gf (x := .int (hq_gi s3 49 3)) rfl rfl rfl rfl rfl ?_
  refine hq_p 1 70 [some (.ref 49), none] [.ref 49, .int (hq_gi s3 49 3)] (fun n h => rfl) ?_
  refine hq_gf (x := .int (hq_gi s3 49 2)) rfl rfl rfl rfl rfl ?_
  obtain ⟨z4, hz4, h⟩ := hq_bind h
  suffices hT : hq_R (mm_O xs) d mc_X9_advance 89 [some (.ref 49), none] [.int z4] s3 g none y from by
    clear h
    have h := hz4
    by_cases c5 : (hq_gi s3 49 3) < (hq_gi s3 49 2)
    · rw [if_pos c5] at h
      refine hq_icF rfl (hq_c_ge_F c5) ?_
      refine hq_p 1 77 [some (.ref 49), none] [.ref 49] (fun n h => rfl) ?_
      refine hq_gf (x := .ref (hq_gr s3 49 1)) rfl rfl rfl rfl rfl ?_
      refine hq_p 1 81 [some (.ref 49), none] [.ref 49, .ref (hq_gr s3 49 1)] (fun n h => rfl) ?_
      refine hq_gf (x := .int (hq_gi s3 49 3)) rfl rfl rfl rfl rfl ?_
      obtain ⟨x6, hx6, h⟩ := hq_bind h
      refine hq_baloadA rfl hx6 ?_
      refine hq_p 1 89 [some (.ref 49), none] [.int x6] (fun n h => rfl) ?_
      cases h
      exact hT
    · rw [if_neg c5] at h
      refine hq_icT rfl (hq_c_ge_T c5) ?_
      refine hq_p 1 89 [some (.ref 49), none] [.int (0 : Int32)] (fun n h => rfl) ?_
      cases h
      exact hT
  refine hq_p 2 91 [some (.ref 49), some (.int z4)] [.ref 49] (fun n h => rfl) ?_
  refine hq_gf (x := .int (hq_gi s3 49 3)) rfl rfl rfl rfl rfl ?_
  refine hq_p 1 95 [some (.ref 49), some (.int z4)] [.ref 49, .int (hq_gi s3 49 3)] (fun n h => rfl) ?_
  refine hq_gf (x := .int (hq_gi s3 49 2)) rfl rfl rfl rfl rfl ?_
  by_cases c7 : (hq_gi s3 49 3) < (hq_gi s3 49 2)
  · rw [if_pos c7] at h
    refine hq_icT rfl (hq_c_lt_T c7) ?_
    refine hq_p 1 110 [some (.ref 49), some (.int z4)] [.int z4] (fun n h => rfl) ?_
    refine hq_bip (97 : Int32) rfl (by decide) ?_
    by_cases c8 : z4 < (97 : Int32)
    · rw [if_pos c8] at h
      refine hq_icT rfl (hq_c_lt_T c8) ?_
      exact f_X9_advance_J128_run hd h
    · rw [if_neg c8] at h
      refine hq_icF rfl (hq_c_lt_F c8) ?_
      refine hq_p 1 116 [some (.ref 49), some (.int z4)] [.int z4] (fun n h => rfl) ?_
      refine hq_bip (122 : Int32) rfl (by decide) ?_
      by_cases c17 : (122 : Int32) < z4
      · rw [if_pos c17] at h
        refine hq_icT rfl (hq_c_gt_T c17) ?_
        exact f_X9_advance_J128_run hd h
      · rw [if_neg c17] at h
        refine hq_icF rfl (hq_c_gt_F c17) ?_
        refine hq_p 1 122 [some (.ref 49), some (.int z4)] [.ref 49] (fun n h => rfl) ?_
        obtain ⟨s18, hs18, h⟩ := hq_bind h
        refine hq_inv rfl rfl (Nat.le_trans (by decide) hd) rfl rfl (hq_rcv rfl rfl) (f_X9_takeWord_run (Nat.le_sub_of_add_le (Nat.le_trans (by decide) hd)) hs18) rfl ?_
        refine hq_p 1 168 [some (.ref 49), some (.int z4)] [] (fun n h => rfl) ?_
        have h := Option.some.inj h
        subst h
        exact ⟨1, rfl⟩
  · rw [if_neg c7] at h
    refine hq_icF rfl (hq_c_lt_F c7) ?_
    refine hq_p 2 103 [some (.ref 49), some (.int z4)] [.int (0 : Int32), .ref 49] (fun n h => rfl) ?_
    obtain ⟨s19, hs19, h⟩ := hq_bind h
    refine hq_pfi rfl rfl rfl rfl rfl hs19 ?_
    refine hq_p 1 168 [some (.ref 49), some (.int z4)] [] (fun n h => rfl) ?_
    have h := Option.some.inj h
    subst h
    exact ⟨1, rfl⟩
def f_X9_advance_J39 (n : Nat) (q0 : hq_S → Option hq_S) (s : hq_S) : Option hq_S := (hq_pi s 49 3 0 ((hq_gi s 49 3) + (1 : Int32))).bind fun s22 => q0 s22
theorem f_X9_advance_J39_run {xs : List Int32} {n d g : Nat} {q0 : hq_S → Option hq_S} {s : hq_S} {y : hq_S} (hd : 1 ≤ d) (e0 : ∀ (s : hq_S), q0 s = some y → hq_R (mm_O xs) d mc_X9_advance 0 [some (.ref 49), none] [] s g none y) (h : f_X9_advance_J39 n q0 s = some y) : hq_R (mm_O xs) d mc_X9_advance 39 [some (.ref 49), none] [] s g none y := by
  unfold f_X9_advance_J39 at h
  refine hq_p 2 41 [some (.ref 49), none] [.ref 49, .ref 49] (fun n h => rfl) ?_
  refine hq_gf (x := .int (hq_gi s 49 3)) rfl rfl rfl rfl rfl ?_
  refine hq_p 2 46 [some (.ref 49), none] [.int ((hq_gi s 49 3) + (1 : Int32)), .ref 49] (fun n h => rfl) ?_
  obtain ⟨s22, hs22, h⟩ := hq_bind h
  refine hq_pfi rfl rfl rfl rfl rfl hs22 ?_
  refine hq_p 1 0 [some (.ref 49), none] [] (fun n h => rfl) ?_
  exact e0 s22 h
def f_X9_advance_L0_B (n : Nat) (q0 : hq_S → Option hq_S) (s : hq_S) : Option hq_S := if (hq_gi s 49 3) < (hq_gi s 49 2) then (hq_ldbA s (hq_gr s 49 1) (hq_gi s 49 3)).bind fun x20 => if x20 = (32 : Int32) then f_X9_advance_J39 n q0 s else (hq_ldbA s (hq_gr s 49 1) (hq_gi s 49 3)).bind fun x23 => if x23 = (10 : Int32) then f_X9_advance_J39 n q0 s else f_X9_advance_J52 n s else f_X9_advance_J52 n s
def f_X9_advance_L0 (n : Nat) (m : Nat) : hq_S → Option hq_S := Nat.rec (fun _ => none) (fun _ q => f_X9_advance_L0_B n q) m
theorem f_X9_advance_L0_Brun {xs : List Int32} {n d g : Nat} {q0 : hq_S → Option hq_S} {s : hq_S} {y : hq_S} (hd : 1 ≤ d) (e0 : ∀ (s : hq_S), q0 s = some y → hq_R (mm_O xs) d mc_X9_advance 0 [some (.ref 49), none] [] s g none y) (h : f_X9_advance_L0_B n q0 s = some y) : hq_R (mm_O xs) d mc_X9_advance 0 [some (.ref 49), none] [] s g none y := by
  unfold f_X9_advance_L0_B at h
  refine hq_p 1 1 [some (.ref 49), none] [.ref 49] (fun n h => rfl) ?_
  refine hq_gf (x := .int (hq_gi s 49 3)) rfl rfl rfl rfl rfl ?_
  refine hq_p 1 5 [some (.ref 49), none] [.ref 49, .int (hq_gi s 49 3)] (fun n h => rfl) ?_
  refine hq_gf (x := .int (hq_gi s 49 2)) rfl rfl rfl rfl rfl ?_
  by_cases c1 : (hq_gi s 49 3) < (hq_gi s 49 2)
  · rw [if_pos c1] at h
    refine hq_icF rfl (hq_c_ge_F c1) ?_
    refine hq_p 1 12 [some (.ref 49), none] [.ref 49] (fun n h => rfl) ?_
    refine hq_gf (x := .ref (hq_gr s 49 1)) rfl rfl rfl rfl rfl ?_
    refine hq_p 1 16 [some (.ref 49), none] [.ref 49, .ref (hq_gr s 49 1)] (fun n h => rfl) ?_
    refine hq_gf (x := .int (hq_gi s 49 3)) rfl rfl rfl rfl rfl ?_
    obtain ⟨x20, hx20, h⟩ := hq_bind h
    refine hq_baloadA rfl hx20 ?_
    refine hq_bip (32 : Int32) rfl (by decide) ?_
    by_cases c21 : x20 = (32 : Int32)
    · rw [if_pos c21] at h
      refine hq_icT rfl (hq_c_eq_T c21) ?_
      exact f_X9_advance_J39_run hd e0 h
    · rw [if_neg c21] at h
      refine hq_icF rfl (hq_c_eq_F c21) ?_
      refine hq_p 1 26 [some (.ref 49), none] [.ref 49] (fun n h => rfl) ?_
      refine hq_gf (x := .ref (hq_gr s 49 1)) rfl rfl rfl rfl rfl ?_
      refine hq_p 1 30 [some (.ref 49), none] [.ref 49, .ref (hq_gr s 49 1)] (fun n h => rfl) ?_
      refine hq_gf (x := .int (hq_gi s 49 3)) rfl rfl rfl rfl rfl ?_
      obtain ⟨x23, hx23, h⟩ := hq_bind h
      refine hq_baloadA rfl hx23 ?_
      refine hq_p 1 36 [some (.ref 49), none] [.int (10 : Int32), .int x23] (fun n h => rfl) ?_
      by_cases c24 : x23 = (10 : Int32)
      · rw [if_pos c24] at h
        refine hq_icF rfl (hq_c_ne_F c24) ?_
        exact f_X9_advance_J39_run hd e0 h
      · rw [if_neg c24] at h
        refine hq_icT rfl (hq_c_ne_T c24) ?_
        exact f_X9_advance_J52_run hd h
  · rw [if_neg c1] at h
    refine hq_icT rfl (hq_c_ge_T c1) ?_
    exact f_X9_advance_J52_run hd h
theorem f_X9_advance_L0_run {xs : List Int32} {n m d g : Nat} {s : hq_S} {y : hq_S} (hd : 1 ≤ d) (h : f_X9_advance_L0 n m s = some y) : hq_R (mm_O xs) d mc_X9_advance 0 [some (.ref 49), none] [] s g none y := by
  induction m generalizing s with
  | zero => cases h
  | succ m ih => exact f_X9_advance_L0_Brun (n := n) hd (fun s h => ih h) h
def f_X9_advance (n : Nat) (s : hq_S) : Option hq_S := f_X9_advance_L0 n n s
theorem f_X9_advance_run {xs : List Int32} {n d g : Nat} {s : hq_S} {y : hq_S} (hd : 1 ≤ d) (h : f_X9_advance n s = some y) : hq_R (mm_O xs) d mc_X9_advance 0 [some (.ref 49), none] [] s g none y := by
  unfold f_X9_advance at h
  exact f_X9_advance_L0_run hd h
def f_X9_start (n : Nat) (k1 : Nat) (a2 : Int32) (s : hq_S) : Option hq_S := (hq_pr s 49 1 k1).bind fun s1 => (hq_alA k1).bind fun x2 => (hq_pi s1 49 2 0 (hq_min a2 x2)).bind fun s3 => (hq_pi s3 49 3 0 (0 : Int32)).bind fun s4 => (f_X9_advance n s4).bind fun s5 => some s5
theorem f_X9_start_run {xs : List Int32} {n d g : Nat} {k1 : Nat} {a2 : Int32} {s : hq_S} {y : hq_S} (hd : 2 ≤ d) (h : f_X9_start n k1 a2 s = some y) : hq_R (mm_O xs) d mc_X9_start 0 [some (.ref 49), some (.ref k1), some (.int a2)] [] s g none y := by
  unfold f_X9_start at h
  refine hq_p 2 2 [some (.ref 49), some (.ref k1), some (.int a2)] [.ref k1, .ref 49] (fun n h => rfl) ?_
  obtain ⟨s1, hs1, h⟩ := hq_bind h
  refine hq_pfr rfl rfl rfl rfl rfl rfl hs1 ?_
  refine hq_p 3 8 [some (.ref 49), some (.ref k1), some (.int a2)] [.ref k1, .int a2, .ref 49] (fun n h => rfl) ?_
  obtain ⟨x2, hx2, h⟩ := hq_bind h
  refine hq_alenA rfl hx2 ?_
  refine hq_math rfl rfl rfl (Nat.le_trans (by decide) hd) ?_
  obtain ⟨s3, hs3, h⟩ := hq_bind h
  refine hq_pfi rfl rfl rfl rfl rfl hs3 ?_
  refine hq_p 2 17 [some (.ref 49), some (.ref k1), some (.int a2)] [.int (0 : Int32), .ref 49] (fun n h => rfl) ?_
  obtain ⟨s4, hs4, h⟩ := hq_bind h
  refine hq_pfi rfl rfl rfl rfl rfl hs4 ?_
  refine hq_p 1 21 [some (.ref 49), some (.ref k1), some (.int a2)] [.ref 49] (fun n h => rfl) ?_
  obtain ⟨s5, hs5, h⟩ := hq_bind h
  refine hq_inv rfl rfl (Nat.le_trans (by decide) hd) rfl rfl (hq_rcv rfl rfl) (f_X9_advance_run (Nat.le_sub_of_add_le (Nat.le_trans (by decide) hd)) hs5) rfl ?_
  have h := Option.some.inj h
  subst h
  exact ⟨1, rfl⟩
def f_X6_failed (n : Nat) (a1 : Int32) (s : hq_S) : Option (Int32 × hq_S) := (hq_pi s 48 7 0 a1).bind fun s1 => (hq_pi s1 48 8 0 (hq_gi s1 49 6)).bind fun s2 => some ((0 : Int32), s2)
theorem f_X6_failed_run {xs : List Int32} {n d g : Nat} {a1 : Int32} {s : hq_S} {y : (Int32 × hq_S)} (hd : 0 ≤ d) (h : f_X6_failed n a1 s = some y) : hq_R (mm_O xs) d mc_X6_failed 0 [some (.ref 48), some (.int a1)] [] s g (some (.int y.1)) y.2 := by
  unfold f_X6_failed at h
  refine hq_p 2 2 [some (.ref 48), some (.int a1)] [.int a1, .ref 48] (fun n h => rfl) ?_
  obtain ⟨s1, hs1, h⟩ := hq_bind h
  refine hq_pfi rfl rfl rfl rfl rfl hs1 ?_
  refine hq_p 2 7 [some (.ref 48), some (.int a1)] [.ref 48, .ref 48] (fun n h => rfl) ?_
  refine hq_gf (x := .ref 49) rfl rfl rfl rfl rfl ?_
  refine hq_gf (x := .int (hq_gi s1 49 6)) rfl rfl rfl rfl rfl ?_
  obtain ⟨s2, hs2, h⟩ := hq_bind h
  refine hq_pfi rfl rfl rfl rfl rfl hs2 ?_
  refine hq_p 1 17 [some (.ref 48), some (.int a1)] [.int (0 : Int32)] (fun n h => rfl) ?_
  have h := Option.some.inj h
  subst h
  exact ⟨1, rfl⟩
def f_X6_passLineWord (n : Nat) (a1 : Int32) (a2 : Int32) (s : hq_S) : Option (Int32 × hq_S) := if a1 < a2 then (f_X9_advance n s).bind fun s2 => some ((1 : Int32), s2) else (f_X6_failed n (2 : Int32) s).bind fun y3 => if mm_rfit (mm_ret mc_X6_passLineWord) y3.1 = true then some (y3.1, y3.2) else none
theorem f_X6_passLineWord_run {xs : List Int32} {n d g : Nat} {a1 : Int32} {a2 : Int32} {s : hq_S} {y : (Int32 × hq_S)} (hd : 2 ≤ d) (h : f_X6_passLineWord n a1 a2 s = some y) : hq_R (mm_O xs) d mc_X6_passLineWord 0 [some (.ref 48), some (.int a1), some (.int a2)] [] s g (some (.int y.1)) y.2 := by
  unfold f_X6_passLineWord at h
  refine hq_p 2 2 [some (.ref 48), some (.int a1), some (.int a2)] [.int a2, .int a1] (fun n h => rfl) ?_
  by_cases c1 : a1 < a2
  · rw [if_pos c1] at h
    refine hq_icT rfl (hq_c_lt_T c1) ?_
    refine hq_p 1 12 [some (.ref 48), some (.int a1), some (.int a2)] [.ref 48] (fun n h => rfl) ?_
    refine hq_gf (x := .ref 49) rfl rfl rfl rfl rfl ?_
    obtain ⟨s2, hs2, h⟩ := hq_bind h
    refine hq_inv rfl rfl (Nat.le_trans (by decide) hd) rfl rfl (hq_rcv rfl rfl) (f_X9_advance_run (Nat.le_sub_of_add_le (Nat.le_trans (by decide) hd)) hs2) rfl ?_
    refine hq_p 1 19 [some (.ref 48), some (.int a1), some (.int a2)] [.int (1 : Int32)] (fun n h => rfl) ?_
    have h := Option.some.inj h
    subst h
    exact ⟨1, rfl⟩
  · rw [if_neg c1] at h
    refine hq_icF rfl (hq_c_lt_F c1) ?_
    refine hq_p 2 7 [some (.ref 48), some (.int a1), some (.int a2)] [.int (2 : Int32), .ref 48] (fun n h => rfl) ?_
    obtain ⟨y3, hy3, h⟩ := hq_bind h
    refine hq_inv rfl rfl (Nat.le_trans (by decide) hd) rfl rfl (hq_rcv rfl rfl) (f_X6_failed_run (Nat.le_sub_of_add_le (Nat.le_trans (by decide) hd)) hy3) rfl ?_
    have hr : mm_rfit (mm_ret mc_X6_passLineWord) y3.1 = true := hq_ifT h
    rw [if_pos hr] at h
    have h := Option.some.inj h
    subst h
    exact hq_iret rfl hr
def f_X10_placeOf_L2_B (n : Nat) (q2 : Int32 → Nat → Int32 → Int32 → hq_S → Option (Int32 × hq_S)) (a0 : Int32) (k1 : Nat) (a2 : Int32) (a3 : Int32) (s : hq_S) : Option (Int32 × hq_S) := if a3 < a2 then (hq_alA k1).bind fun x2 => if a3 < x2 then (hq_ldiA s k1 a3).bind fun x4 => if x4 = a0 then some (a3, s) else q2 a0 k1 a2 (a3 + (1 : Int32)) s else some ((-1 : Int32), s) else some ((-1 : Int32), s)
def f_X10_placeOf_L2 (n : Nat) (m : Nat) : Int32 → Nat → Int32 → Int32 → hq_S → Option (Int32 × hq_S) := Nat.rec (fun _ _ _ _ _ => none) (fun _ q => f_X10_placeOf_L2_B n q) m
theorem f_X10_placeOf_L2_Brun {xs : List Int32} {n d g : Nat} {a0 : Int32} {k1 : Nat} {a2 : Int32} {a3 : Int32} {q2 : Int32 → Nat → Int32 → Int32 → hq_S → Option (Int32 × hq_S)} {s : hq_S} {y : (Int32 × hq_S)} (hd : 0 ≤ d) (e2 : ∀ (a0 : Int32) (k1 : Nat) (a2 : Int32) (a3 : Int32) (s : hq_S), q2 a0 k1 a2 a3 s = some y → hq_R (mm_O xs) d mc_X10_placeOf 2 [some (.int a0), some (.ref k1), some (.int a2), some (.int a3)] [] s g (some (.int y.1)) y.2) (h : f_X10_placeOf_L2_B n q2 a0 k1 a2 a3 s = some y) : hq_R (mm_O xs) d mc_X10_placeOf 2 [some (.int a0), some (.ref k1), some (.int a2), some (.int a3)] [] s g (some (.int y.1)) y.2 := by
  unfold f_X10_placeOf_L2_B at h
  refine hq_p 2 4 [some (.int a0), some (.ref k1), some (.int a2), some (.int a3)] [.int a2, .int a3] (fun n h => rfl) ?_
  by_cases c1 : a3 < a2
  · rw [if_pos c1] at h
    refine hq_icF rfl (hq_c_ge_F c1) ?_
    refine hq_p 2 9 [some (.int a0), some (.ref k1), some (.int a2), some (.int a3)] [.ref k1, .int a3] (fun n h => rfl) ?_
    obtain ⟨x2, hx2, h⟩ := hq_bind h
    refine hq_alenA rfl hx2 ?_
    by_cases c3 : a3 < x2
    · rw [if_pos c3] at h
      refine hq_icF rfl (hq_c_ge_F c3) ?_
      refine hq_p 2 15 [some (.int a0), some (.ref k1), some (.int a2), some (.int a3)] [.int a3, .ref k1] (fun n h => rfl) ?_
      obtain ⟨x4, hx4, h⟩ := hq_bind h
      refine hq_ialoadA rfl hx4 ?_
      refine hq_p 1 17 [some (.int a0), some (.ref k1), some (.int a2), some (.int a3)] [.int a0, .int x4] (fun n h => rfl) ?_
      by_cases c5 : x4 = a0
      · rw [if_pos c5] at h
        refine hq_icF rfl (hq_c_ne_F c5) ?_
        refine hq_p 1 21 [some (.int a0), some (.ref k1), some (.int a2), some (.int a3)] [.int a3] (fun n h => rfl) ?_
        have h := Option.some.inj h
        subst h
        exact ⟨1, rfl⟩
      · rw [if_neg c5] at h
        refine hq_icT rfl (hq_c_ne_T c5) ?_
        refine hq_p 2 2 [some (.int a0), some (.ref k1), some (.int a2), some (.int (a3 + (1 : Int32)))] [] (fun n h => rfl) ?_
        exact e2 a0 k1 a2 (a3 + (1 : Int32)) s h
    · rw [if_neg c3] at h
      refine hq_icT rfl (hq_c_ge_T c3) ?_
      refine hq_icn (-1 : Int32) rfl (by decide) ?_
      have h := Option.some.inj h
      subst h
      exact ⟨1, rfl⟩
  · rw [if_neg c1] at h
    refine hq_icT rfl (hq_c_ge_T c1) ?_
    refine hq_icn (-1 : Int32) rfl (by decide) ?_
    have h := Option.some.inj h
    subst h
    exact ⟨1, rfl⟩
theorem f_X10_placeOf_L2_run {xs : List Int32} {n m d g : Nat} {a0 : Int32} {k1 : Nat} {a2 : Int32} {a3 : Int32} {s : hq_S} {y : (Int32 × hq_S)} (hd : 0 ≤ d) (h : f_X10_placeOf_L2 n m a0 k1 a2 a3 s = some y) : hq_R (mm_O xs) d mc_X10_placeOf 2 [some (.int a0), some (.ref k1), some (.int a2), some (.int a3)] [] s g (some (.int y.1)) y.2 := by
  induction m generalizing a0 k1 a2 a3 s with
  | zero => cases h
  | succ m ih => exact f_X10_placeOf_L2_Brun (n := n) hd (fun a0 k1 a2 a3 s h => ih h) h
def f_X10_placeOf (n : Nat) (a0 : Int32) (k1 : Nat) (a2 : Int32) (s : hq_S) : Option (Int32 × hq_S) := f_X10_placeOf_L2 n n a0 k1 a2 (0 : Int32) s
theorem f_X10_placeOf_run {xs : List Int32} {n d g : Nat} {a0 : Int32} {k1 : Nat} {a2 : Int32} {s : hq_S} {y : (Int32 × hq_S)} (hd : 0 ≤ d) (h : f_X10_placeOf n a0 k1 a2 s = some y) : hq_R (mm_O xs) d mc_X10_placeOf 0 [some (.int a0), some (.ref k1), some (.int a2), none] [] s g (some (.int y.1)) y.2 := by
  unfold f_X10_placeOf at h
  refine hq_p 2 2 [some (.int a0), some (.ref k1), some (.int a2), some (.int (0 : Int32))] [] (fun n h => rfl) ?_
  exact f_X10_placeOf_L2_run hd h
def f_X6_newName (n : Nat) (k1 : Nat) (a2 : Int32) (s : hq_S) : Option (Int32 × hq_S) := if (hq_gi s 49 4) = (2 : Int32) then (f_X10_placeOf n (hq_gi s 49 5) k1 a2 s).bind fun y2 => if y2.1 = (-1 : Int32) then (f_X9_advance n y2.2).bind fun s4 => some ((hq_gi s 49 5), s4) else (f_X6_failed n (3 : Int32) y2.2).bind fun y5 => some ((-1 : Int32), y5.2) else (f_X6_failed n (1 : Int32) s).bind fun y6 => some ((-1 : Int32), y6.2)
theorem f_X6_newName_run {xs : List Int32} {n d g : Nat} {k1 : Nat} {a2 : Int32} {s : hq_S} {y : (Int32 × hq_S)} (hd : 2 ≤ d) (h : f_X6_newName n k1 a2 s = some y) : hq_R (mm_O xs) d mc_X6_newName 0 [some (.ref 48), some (.ref k1), some (.int a2), none] [] s g (some (.int y.1)) y.2 := by
  unfold f_X6_newName at h
  refine hq_p 1 1 [some (.ref 48), some (.ref k1), some (.int a2), none] [.ref 48] (fun n h => rfl) ?_
  refine hq_gf (x := .ref 49) rfl rfl rfl rfl rfl ?_
  refine hq_gf (x := .int (hq_gi s 49 5)) rfl rfl rfl rfl rfl ?_
  refine hq_p 2 9 [some (.ref 48), some (.ref k1), some (.int a2), some (.int (hq_gi s 49 5))] [.ref 48] (fun n h => rfl) ?_
  refine hq_gf (x := .ref 49) rfl rfl rfl rfl rfl ?_
  refine hq_gf (x := .int (hq_gi s 49 4)) rfl rfl rfl rfl rfl ?_
  refine hq_p 1 16 [some (.ref 48), some (.ref k1), some (.int a2), some (.int (hq_gi s 49 5))] [.int (2 : Int32), .int (hq_gi s 49 4)] (fun n h => rfl) ?_
  by_cases c1 : (hq_gi s 49 4) = (2 : Int32)
  · rw [if_pos c1] at h
    refine hq_icT rfl (hq_c_eq_T c1) ?_
    refine hq_p 3 30 [some (.ref 48), some (.ref k1), some (.int a2), some (.int (hq_gi s 49 5))] [.int a2, .ref k1, .int (hq_gi s 49 5)] (fun n h => rfl) ?_
    obtain ⟨y2, hy2, h⟩ := hq_bind h
    refine hq_ist rfl rfl rfl (Nat.le_trans (by decide) hd) rfl (f_X10_placeOf_run (Nat.le_sub_of_add_le (Nat.le_trans (by decide) hd)) hy2) rfl ?_
    refine hq_icn (-1 : Int32) rfl (by decide) ?_
    by_cases c3 : y2.1 = (-1 : Int32)
    · rw [if_pos c3] at h
      refine hq_icT rfl (hq_c_eq_T c3) ?_
      refine hq_p 1 46 [some (.ref 48), some (.ref k1), some (.int a2), some (.int (hq_gi s 49 5))] [.ref 48] (fun n h => rfl) ?_
      refine hq_gf (x := .ref 49) rfl rfl rfl rfl rfl ?_
      obtain ⟨s4, hs4, h⟩ := hq_bind h
      refine hq_inv rfl rfl (Nat.le_trans (by decide) hd) rfl rfl (hq_rcv rfl rfl) (f_X9_advance_run (Nat.le_sub_of_add_le (Nat.le_trans (by decide) hd)) hs4) rfl ?_
      refine hq_p 1 53 [some (.ref 48), some (.ref k1), some (.int a2), some (.int (hq_gi s 49 5))] [.int (hq_gi s 49 5)] (fun n h => rfl) ?_
      have h := Option.some.inj h
      subst h
      exact ⟨1, rfl⟩
    · rw [if_neg c3] at h
      refine hq_icF rfl (hq_c_eq_F c3) ?_
      refine hq_p 2 39 [some (.ref 48), some (.ref k1), some (.int a2), some (.int (hq_gi s 49 5))] [.int (3 : Int32), .ref 48] (fun n h => rfl) ?_
      obtain ⟨y5, hy5, h⟩ := hq_bind h
      refine hq_inv rfl rfl (Nat.le_trans (by decide) hd) rfl rfl (hq_rcv rfl rfl) (f_X6_failed_run (Nat.le_sub_of_add_le (Nat.le_trans (by decide) hd)) hy5) rfl ?_
      refine hq_p 1 43 [some (.ref 48), some (.ref k1), some (.int a2), some (.int (hq_gi s 49 5))] [] (fun n h => rfl) ?_
      refine hq_icn (-1 : Int32) rfl (by decide) ?_
      have h := Option.some.inj h
      subst h
      exact ⟨1, rfl⟩
  · rw [if_neg c1] at h
    refine hq_icF rfl (hq_c_eq_F c1) ?_
    refine hq_p 2 21 [some (.ref 48), some (.ref k1), some (.int a2), some (.int (hq_gi s 49 5))] [.int (1 : Int32), .ref 48] (fun n h => rfl) ?_
    obtain ⟨y6, hy6, h⟩ := hq_bind h
    refine hq_inv rfl rfl (Nat.le_trans (by decide) hd) rfl rfl (hq_rcv rfl rfl) (f_X6_failed_run (Nat.le_sub_of_add_le (Nat.le_trans (by decide) hd)) hy6) rfl ?_
    refine hq_p 1 25 [some (.ref 48), some (.ref k1), some (.int a2), some (.int (hq_gi s 49 5))] [] (fun n h => rfl) ?_
    refine hq_icn (-1 : Int32) rfl (by decide) ?_
    have h := Option.some.inj h
    subst h
    exact ⟨1, rfl⟩
def f_X6_passNumber (n : Nat) (a1 : Int32) (s : hq_S) : Option (Int32 × hq_S) := if (hq_gi s 49 4) = (4 : Int32) then if a1 < (hq_gi s 49 5) then (f_X6_failed n (2 : Int32) s).bind fun y4 => some ((-1 : Int32), y4.2) else (f_X9_advance n s).bind fun s3 => some ((hq_gi s 49 5), s3) else (f_X6_failed n (1 : Int32) s).bind fun y5 => some ((-1 : Int32), y5.2)
theorem f_X6_passNumber_run {xs : List Int32} {n d g : Nat} {a1 : Int32} {s : hq_S} {y : (Int32 × hq_S)} (hd : 2 ≤ d) (h : f_X6_passNumber n a1 s = some y) : hq_R (mm_O xs) d mc_X6_passNumber 0 [some (.ref 48), some (.int a1), none] [] s g (some (.int y.1)) y.2 := by
  unfold f_X6_passNumber at h
  refine hq_p 1 1 [some (.ref 48), some (.int a1), none] [.ref 48] (fun n h => rfl) ?_
  refine hq_gf (x := .ref 49) rfl rfl rfl rfl rfl ?_
  refine hq_gf (x := .int (hq_gi s 49 5)) rfl rfl rfl rfl rfl ?_
  refine hq_p 2 9 [some (.ref 48), some (.int a1), some (.int (hq_gi s 49 5))] [.ref 48] (fun n h => rfl) ?_
  refine hq_gf (x := .ref 49) rfl rfl rfl rfl rfl ?_
  refine hq_gf (x := .int (hq_gi s 49 4)) rfl rfl rfl rfl rfl ?_
  refine hq_p 1 16 [some (.ref 48), some (.int a1), some (.int (hq_gi s 49 5))] [.int (4 : Int32), .int (hq_gi s 49 4)] (fun n h => rfl) ?_
  by_cases c1 : (hq_gi s 49 4) = (4 : Int32)
  · rw [if_pos c1] at h
    refine hq_icT rfl (hq_c_eq_T c1) ?_
    refine hq_p 2 29 [some (.ref 48), some (.int a1), some (.int (hq_gi s 49 5))] [.int a1, .int (hq_gi s 49 5)] (fun n h => rfl) ?_
    by_cases c2 : a1 < (hq_gi s 49 5)
    · rw [if_pos c2] at h
      refine hq_icF rfl (hq_c_le_F c2) ?_
      refine hq_p 2 34 [some (.ref 48), some (.int a1), some (.int (hq_gi s 49 5))] [.int (2 : Int32), .ref 48] (fun n h => rfl) ?_
      obtain ⟨y4, hy4, h⟩ := hq_bind h
      refine hq_inv rfl rfl (Nat.le_trans (by decide) hd) rfl rfl (hq_rcv rfl rfl) (f_X6_failed_run (Nat.le_sub_of_add_le (Nat.le_trans (by decide) hd)) hy4) rfl ?_
      refine hq_p 1 38 [some (.ref 48), some (.int a1), some (.int (hq_gi s 49 5))] [] (fun n h => rfl) ?_
      refine hq_icn (-1 : Int32) rfl (by decide) ?_
      have h := Option.some.inj h
      subst h
      exact ⟨1, rfl⟩
    · rw [if_neg c2] at h
      refine hq_icT rfl (hq_c_le_T c2) ?_
      refine hq_p 1 41 [some (.ref 48), some (.int a1), some (.int (hq_gi s 49 5))] [.ref 48] (fun n h => rfl) ?_
      refine hq_gf (x := .ref 49) rfl rfl rfl rfl rfl ?_
      obtain ⟨s3, hs3, h⟩ := hq_bind h
      refine hq_inv rfl rfl (Nat.le_trans (by decide) hd) rfl rfl (hq_rcv rfl rfl) (f_X9_advance_run (Nat.le_sub_of_add_le (Nat.le_trans (by decide) hd)) hs3) rfl ?_
      refine hq_p 1 48 [some (.ref 48), some (.int a1), some (.int (hq_gi s 49 5))] [.int (hq_gi s 49 5)] (fun n h => rfl) ?_
      have h := Option.some.inj h
      subst h
      exact ⟨1, rfl⟩
  · rw [if_neg c1] at h
    refine hq_icF rfl (hq_c_eq_F c1) ?_
    refine hq_p 2 21 [some (.ref 48), some (.int a1), some (.int (hq_gi s 49 5))] [.int (1 : Int32), .ref 48] (fun n h => rfl) ?_
    obtain ⟨y5, hy5, h⟩ := hq_bind h
    refine hq_inv rfl rfl (Nat.le_trans (by decide) hd) rfl rfl (hq_rcv rfl rfl) (f_X6_failed_run (Nat.le_sub_of_add_le (Nat.le_trans (by decide) hd)) hy5) rfl ?_
    refine hq_p 1 25 [some (.ref 48), some (.int a1), some (.int (hq_gi s 49 5))] [] (fun n h => rfl) ?_
    refine hq_icn (-1 : Int32) rfl (by decide) ?_
    have h := Option.some.inj h
    subst h
    exact ⟨1, rfl⟩
def f_X10_addCorner (n : Nat) (k0 : Nat) (a1 : Int32) (a2 : Int32) (a3 : Int32) (s : hq_S) : Option (Int32 × hq_S) := if (hq_gi s k0 0) < (10 : Int32) then (hq_st s (k0 + 1) 10 (hq_gi s k0 0) a1).bind fun s2 => (hq_st s2 (k0 + 2) 10 (hq_gi s2 k0 0) a2).bind fun s3 => (hq_st s3 ((k0 + 14) + 1) 10 (hq_gi s3 k0 0) a3).bind fun s4 => (hq_pi s4 k0 0 0 ((hq_gi s4 k0 0) + (1 : Int32))).bind fun s5 => some ((1 : Int32), s5) else some ((0 : Int32), s)
theorem f_X10_addCorner_run {xs : List Int32} {n d g : Nat} {k0 : Nat} {a1 : Int32} {a2 : Int32} {a3 : Int32} {s : hq_S} {y : (Int32 × hq_S)} (hd : 0 ≤ d) (m0_ : hq_isT k0) (h : f_X10_addCorner n k0 a1 a2 a3 s = some y) : hq_R (mm_O xs) d mc_X10_addCorner 0 [some (.ref k0), some (.int a1), some (.int a2), some (.int a3)] [] s g (some (.int y.1)) y.2 := by
  unfold f_X10_addCorner at h
  refine hq_p 1 1 [some (.ref k0), some (.int a1), some (.int a2), some (.int a3)] [.ref k0] (fun n h => rfl) ?_
  refine hq_gf (x := .int (hq_gi s k0 0)) rfl (hq_shT m0_) rfl rfl rfl ?_
  refine hq_p 1 6 [some (.ref k0), some (.int a1), some (.int a2), some (.int a3)] [.int (10 : Int32), .int (hq_gi s k0 0)] (fun n h => rfl) ?_
  by_cases c1 : (hq_gi s k0 0) < (10 : Int32)
  · rw [if_pos c1] at h
    refine hq_icT rfl (hq_c_lt_T c1) ?_
    refine hq_p 1 12 [some (.ref k0), some (.int a1), some (.int a2), some (.int a3)] [.ref k0] (fun n h => rfl) ?_
    refine hq_gf (x := .ref (k0 + 1)) rfl (hq_shT m0_) rfl rfl (hq_fldr (hq_shT_u m0_)) ?_
    refine hq_p 1 16 [some (.ref k0), some (.int a1), some (.int a2), some (.int a3)] [.ref k0, .ref (k0 + 1)] (fun n h => rfl) ?_
    refine hq_gf (x := .int (hq_gi s k0 0)) rfl (hq_shT m0_) rfl rfl rfl ?_
    refine hq_p 1 20 [some (.ref k0), some (.int a1), some (.int a2), some (.int a3)] [.int a1, .int (hq_gi s k0 0), .ref (k0 + 1)] (fun n h => rfl) ?_
    obtain ⟨s2, hs2, h⟩ := hq_bind h
    refine hq_iastore rfl (hq_shT_1 m0_) List.length_replicate hs2 ?_
    refine hq_p 1 22 [some (.ref k0), some (.int a1), some (.int a2), some (.int a3)] [.ref k0] (fun n h => rfl) ?_
    refine hq_gf (x := .ref (k0 + 2)) rfl (hq_shT m0_) rfl rfl (hq_fldr (hq_shT_u m0_)) ?_
    refine hq_p 1 26 [some (.ref k0), some (.int a1), some (.int a2), some (.int a3)] [.ref k0, .ref (k0 + 2)] (fun n h => rfl) ?_
    refine hq_gf (x := .int (hq_gi s2 k0 0)) rfl (hq_shT m0_) rfl rfl rfl ?_
    refine hq_p 1 30 [some (.ref k0), some (.int a1), some (.int a2), some (.int a3)] [.int a2, .int (hq_gi s2 k0 0), .ref (k0 + 2)] (fun n h => rfl) ?_
    obtain ⟨s3, hs3, h⟩ := hq_bind h
    refine hq_iastore rfl (hq_shT_2 m0_) List.length_replicate hs3 ?_
    refine hq_p 1 32 [some (.ref k0), some (.int a1), some (.int a2), some (.int a3)] [.ref k0] (fun n h => rfl) ?_
    refine hq_gf (x := .ref (k0 + 14)) rfl (hq_shT m0_) rfl rfl (hq_fldr (hq_shT_u m0_)) ?_
    refine hq_gf (x := .ref ((k0 + 14) + 1)) rfl (hq_shN (hq_shT_m14 m0_)) rfl rfl (hq_fldr (hq_shN_u (hq_shT_m14 m0_))) ?_
    refine hq_p 1 39 [some (.ref k0), some (.int a1), some (.int a2), some (.int a3)] [.ref k0, .ref ((k0 + 14) + 1)] (fun n h => rfl) ?_
    refine hq_gf (x := .int (hq_gi s3 k0 0)) rfl (hq_shT m0_) rfl rfl rfl ?_
    refine hq_p 1 43 [some (.ref k0), some (.int a1), some (.int a2), some (.int a3)] [.int a3, .int (hq_gi s3 k0 0), .ref ((k0 + 14) + 1)] (fun n h => rfl) ?_
    obtain ⟨s4, hs4, h⟩ := hq_bind h
    refine hq_iastore rfl (hq_shN_1 (hq_shT_m14 m0_)) List.length_replicate hs4 ?_
    refine hq_p 2 46 [some (.ref k0), some (.int a1), some (.int a2), some (.int a3)] [.ref k0, .ref k0] (fun n h => rfl) ?_
    refine hq_gf (x := .int (hq_gi s4 k0 0)) rfl (hq_shT m0_) rfl rfl rfl ?_
    refine hq_p 2 51 [some (.ref k0), some (.int a1), some (.int a2), some (.int a3)] [.int ((hq_gi s4 k0 0) + (1 : Int32)), .ref k0] (fun n h => rfl) ?_
    obtain ⟨s5, hs5, h⟩ := hq_bind h
    refine hq_pfi rfl (hq_shT m0_) rfl rfl rfl hs5 ?_
    refine hq_p 1 55 [some (.ref k0), some (.int a1), some (.int a2), some (.int a3)] [.int (1 : Int32)] (fun n h => rfl) ?_
    have h := Option.some.inj h
    subst h
    exact ⟨1, rfl⟩
  · rw [if_neg c1] at h
    refine hq_icF rfl (hq_c_lt_F c1) ?_
    refine hq_p 1 10 [some (.ref k0), some (.int a1), some (.int a2), some (.int a3)] [.int (0 : Int32)] (fun n h => rfl) ?_
    have h := Option.some.inj h
    subst h
    exact ⟨1, rfl⟩
def f_X6_readCorner (n : Nat) (s : hq_S) : Option (Int32 × hq_S) := if hq_isT (hq_gr s 48 1) then (f_X6_passLineWord n (hq_gi s (hq_gr s 48 1) 0) (10 : Int32) s).bind fun y2 => if y2.1 = 0 then some ((0 : Int32), y2.2) else if hq_isT (hq_gr y2.2 48 1) then if hq_isT (hq_gr y2.2 48 1) then (f_X6_newName n ((hq_gr y2.2 48 1) + 1) (hq_gi y2.2 (hq_gr y2.2 48 1) 0) y2.2).bind fun y6 => (if y6.1 = (-1 : Int32) then some ((-1 : Int32), y6.2) else (f_X6_passNumber n (9 : Int32) y6.2).bind fun y9 => some (y9.1, y9.2)).bind fun z7 => (if z7.1 = (-1 : Int32) then some ((-1 : Int32), z7.2) else (f_X6_passNumber n (999 : Int32) z7.2).bind fun y12 => some (y12.1, y12.2)).bind fun z10 => if z10.1 = (-1 : Int32) then some ((0 : Int32), z10.2) else if hq_isT (hq_gr z10.2 48 1) then (f_X10_addCorner n (hq_gr z10.2 48 1) y6.1 z7.1 z10.1 z10.2).bind fun y15 => if y15.1 = 0 then some ((0 : Int32), y15.2) else some ((1 : Int32), y15.2) else none else none else none else none
theorem f_X6_readCorner_run {xs : List Int32} {n d g : Nat} {s : hq_S} {y : (Int32 × hq_S)} (hd : 3 ≤ d) (h : f_X6_readCorner n s = some y) : hq_R (mm_O xs) d mc_X6_readCorner 0 [some (.ref 48), none, none, none] [] s g (some (.int y.1)) y.2 := by
  unfold f_X6_readCorner at h
  refine hq_p 2 2 [some (.ref 48), none, none, none] [.ref 48, .ref 48] (fun n h => rfl) ?_
  refine hq_gf (x := .ref (hq_gr s 48 1)) rfl rfl rfl rfl rfl ?_
  have m1 : hq_isT (hq_gr s 48 1) := hq_ifT h
  rw [if_pos m1] at h
  refine hq_gf (x := .int (hq_gi s (hq_gr s 48 1) 0)) rfl (hq_shT m1) rfl rfl rfl ?_
  refine hq_p 1 10 [some (.ref 48), none, none, none] [.int (10 : Int32), .int (hq_gi s (hq_gr s 48 1) 0), .ref 48] (fun n h => rfl) ?_
  obtain ⟨y2, hy2, h⟩ := hq_bind h
  refine hq_inv rfl rfl (Nat.le_trans (by decide) hd) rfl rfl (hq_rcv rfl rfl) (f_X6_passLineWord_run (Nat.le_sub_of_add_le (Nat.le_trans (by decide) hd)) hy2) rfl ?_
  by_cases c3 : y2.1 = 0
  · rw [if_pos c3] at h
    refine hq_izF rfl (hq_c_ne_F c3) ?_
    refine hq_p 1 17 [some (.ref 48), none, none, none] [.int (0 : Int32)] (fun n h => rfl) ?_
    have h := Option.some.inj h
    subst h
    exact ⟨1, rfl⟩
  · rw [if_neg c3] at h
    refine hq_izT rfl (hq_c_ne_T c3) ?_
    refine hq_p 2 20 [some (.ref 48), none, none, none] [.ref 48, .ref 48] (fun n h => rfl) ?_
    refine hq_gf (x := .ref (hq_gr y2.2 48 1)) rfl rfl rfl rfl rfl ?_
    have m4 : hq_isT (hq_gr y2.2 48 1) := hq_ifT h
    rw [if_pos m4] at h
    refine hq_gf (x := .ref ((hq_gr y2.2 48 1) + 1)) rfl (hq_shT m4) rfl rfl (hq_fldr (hq_shT_u m4)) ?_
    refine hq_p 1 27 [some (.ref 48), none, none, none] [.ref 48, .ref ((hq_gr y2.2 48 1) + 1), .ref 48] (fun n h => rfl) ?_
    refine hq_gf (x := .ref (hq_gr y2.2 48 1)) rfl rfl rfl rfl rfl ?_
    have m5 : hq_isT (hq_gr y2.2 48 1) := hq_ifT h
    rw [if_pos m5] at h
    refine hq_gf (x := .int (hq_gi y2.2 (hq_gr y2.2 48 1) 0)) rfl (hq_shT m5) rfl rfl rfl ?_
    obtain ⟨y6, hy6, h⟩ := hq_bind h
    refine hq_inv rfl rfl (Nat.le_trans (by decide) hd) rfl rfl (hq_rcv rfl rfl) (f_X6_newName_run (Nat.le_sub_of_add_le (Nat.le_trans (by decide) hd)) hy6) rfl ?_
    refine hq_p 2 38 [some (.ref 48), some (.int y6.1), none, none] [.int y6.1] (fun n h => rfl) ?_
    refine hq_icn (-1 : Int32) rfl (by decide) ?_
    obtain ⟨z7, hz7, h⟩ := hq_bind h
    suffices hT : hq_R (mm_O xs) d mc_X6_readCorner 52 [some (.ref 48), some (.int y6.1), none, none] [.int z7.1] z7.2 g (some (.int y.1)) y.2 from by
      clear h
      have h := hz7
      by_cases c8 : y6.1 = (-1 : Int32)
      · rw [if_pos c8] at h
        refine hq_icF rfl (hq_c_ne_F c8) ?_
        refine hq_icn (-1 : Int32) rfl (by decide) ?_
        refine hq_p 1 52 [some (.ref 48), some (.int y6.1), none, none] [.int (-1 : Int32)] (fun n h => rfl) ?_
        cases h
        exact hT
      · rw [if_neg c8] at h
        refine hq_icT rfl (hq_c_ne_T c8) ?_
        refine hq_p 2 49 [some (.ref 48), some (.int y6.1), none, none] [.int (9 : Int32), .ref 48] (fun n h => rfl) ?_
        obtain ⟨y9, hy9, h⟩ := hq_bind h
        refine hq_inv rfl rfl (Nat.le_trans (by decide) hd) rfl rfl (hq_rcv rfl rfl) (f_X6_passNumber_run (Nat.le_sub_of_add_le (Nat.le_trans (by decide) hd)) hy9) rfl ?_
        cases h
        exact hT
    refine hq_p 2 54 [some (.ref 48), some (.int y6.1), some (.int z7.1), none] [.int z7.1] (fun n h => rfl) ?_
    refine hq_icn (-1 : Int32) rfl (by decide) ?_
    obtain ⟨z10, hz10, h⟩ := hq_bind h
    suffices hT : hq_R (mm_O xs) d mc_X6_readCorner 69 [some (.ref 48), some (.int y6.1), some (.int z7.1), none] [.int z10.1] z10.2 g (some (.int y.1)) y.2 from by
      clear h
      have h := hz10
      by_cases c11 : z7.1 = (-1 : Int32)
      · rw [if_pos c11] at h
        refine hq_icF rfl (hq_c_ne_F c11) ?_
        refine hq_icn (-1 : Int32) rfl (by decide) ?_
        refine hq_p 1 69 [some (.ref 48), some (.int y6.1), some (.int z7.1), none] [.int (-1 : Int32)] (fun n h => rfl) ?_
        cases h
        exact hT
      · rw [if_neg c11] at h
        refine hq_icT rfl (hq_c_ne_T c11) ?_
        refine hq_p 1 63 [some (.ref 48), some (.int y6.1), some (.int z7.1), none] [.ref 48] (fun n h => rfl) ?_
        refine hq_sip (999 : Int32) rfl (by decide) ?_
        obtain ⟨y12, hy12, h⟩ := hq_bind h
        refine hq_inv rfl rfl (Nat.le_trans (by decide) hd) rfl rfl (hq_rcv rfl rfl) (f_X6_passNumber_run (Nat.le_sub_of_add_le (Nat.le_trans (by decide) hd)) hy12) rfl ?_
        cases h
        exact hT
    refine hq_p 2 71 [some (.ref 48), some (.int y6.1), some (.int z7.1), some (.int z10.1)] [.int z10.1] (fun n h => rfl) ?_
    refine hq_icn (-1 : Int32) rfl (by decide) ?_
    by_cases c13 : z10.1 = (-1 : Int32)
    · rw [if_pos c13] at h
      refine hq_icT rfl (hq_c_eq_T c13) ?_
      refine hq_p 1 93 [some (.ref 48), some (.int y6.1), some (.int z7.1), some (.int z10.1)] [.int (0 : Int32)] (fun n h => rfl) ?_
      have h := Option.some.inj h
      subst h
      exact ⟨1, rfl⟩
    · rw [if_neg c13] at h
      refine hq_icF rfl (hq_c_eq_F c13) ?_
      refine hq_p 1 76 [some (.ref 48), some (.int y6.1), some (.int z7.1), some (.int z10.1)] [.ref 48] (fun n h => rfl) ?_
      refine hq_gf (x := .ref (hq_gr z10.2 48 1)) rfl rfl rfl rfl rfl ?_
      have m14 : hq_isT (hq_gr z10.2 48 1) := hq_ifT h
      rw [if_pos m14] at h
      refine hq_p 3 82 [some (.ref 48), some (.int y6.1), some (.int z7.1), some (.int z10.1)] [.int z10.1, .int z7.1, .int y6.1, .ref (hq_gr z10.2 48 1)] (fun n h => rfl) ?_
      obtain ⟨y15, hy15, h⟩ := hq_bind h
      refine hq_inv rfl rfl (Nat.le_trans (by decide) hd) rfl rfl (hq_rcv (hq_shT m14) rfl) (f_X10_addCorner_run (Nat.le_sub_of_add_le (Nat.le_trans (by decide) hd)) m14 hy15) rfl ?_
      by_cases c16 : y15.1 = 0
      · rw [if_pos c16] at h
        refine hq_izT rfl (hq_c_eq_T c16) ?_
        refine hq_p 1 93 [some (.ref 48), some (.int y6.1), some (.int z7.1), some (.int z10.1)] [.int (0 : Int32)] (fun n h => rfl) ?_
        have h := Option.some.inj h
        subst h
        exact ⟨1, rfl⟩
      · rw [if_neg c16] at h
        refine hq_izF rfl (hq_c_eq_F c16) ?_
        refine hq_p 2 93 [some (.ref 48), some (.int y6.1), some (.int z7.1), some (.int z10.1)] [.int (1 : Int32)] (fun n h => rfl) ?_
        have h := Option.some.inj h
        subst h
        exact ⟨1, rfl⟩
def f_X6_toldOne (n : Nat) (k1 : Nat) (a2 : Int32) (s : hq_S) : Option (Int32 × hq_S) := if (hq_gi s 49 4) = (2 : Int32) then (f_X10_placeOf n (hq_gi s 49 5) k1 a2 s).bind fun y2 => if y2.1 = (-1 : Int32) then (f_X6_failed n (4 : Int32) y2.2).bind fun y4 => some (y2.1, y4.2) else some (y2.1, y2.2) else (f_X6_failed n (1 : Int32) s).bind fun y5 => some ((-1 : Int32), y5.2)
theorem f_X6_toldOne_run {xs : List Int32} {n d g : Nat} {k1 : Nat} {a2 : Int32} {s : hq_S} {y : (Int32 × hq_S)} (hd : 1 ≤ d) (h : f_X6_toldOne n k1 a2 s = some y) : hq_R (mm_O xs) d mc_X6_toldOne 0 [some (.ref 48), some (.ref k1), some (.int a2), none] [] s g (some (.int y.1)) y.2 := by
  unfold f_X6_toldOne at h
  refine hq_p 1 1 [some (.ref 48), some (.ref k1), some (.int a2), none] [.ref 48] (fun n h => rfl) ?_
  refine hq_gf (x := .ref 49) rfl rfl rfl rfl rfl ?_
  refine hq_gf (x := .int (hq_gi s 49 4)) rfl rfl rfl rfl rfl ?_
  refine hq_p 1 8 [some (.ref 48), some (.ref k1), some (.int a2), none] [.int (2 : Int32), .int (hq_gi s 49 4)] (fun n h => rfl) ?_
  by_cases c1 : (hq_gi s 49 4) = (2 : Int32)
  · rw [if_pos c1] at h
    refine hq_icT rfl (hq_c_eq_T c1) ?_
    refine hq_p 1 20 [some (.ref 48), some (.ref k1), some (.int a2), none] [.ref 48] (fun n h => rfl) ?_
    refine hq_gf (x := .ref 49) rfl rfl rfl rfl rfl ?_
    refine hq_gf (x := .int (hq_gi s 49 5)) rfl rfl rfl rfl rfl ?_
    refine hq_p 2 28 [some (.ref 48), some (.ref k1), some (.int a2), none] [.int a2, .ref k1, .int (hq_gi s 49 5)] (fun n h => rfl) ?_
    obtain ⟨y2, hy2, h⟩ := hq_bind h
    refine hq_ist rfl rfl rfl (Nat.le_trans (by decide) hd) rfl (f_X10_placeOf_run (Nat.le_sub_of_add_le (Nat.le_trans (by decide) hd)) hy2) rfl ?_
    refine hq_p 2 33 [some (.ref 48), some (.ref k1), some (.int a2), some (.int y2.1)] [.int y2.1] (fun n h => rfl) ?_
    refine hq_icn (-1 : Int32) rfl (by decide) ?_
    by_cases c3 : y2.1 = (-1 : Int32)
    · rw [if_pos c3] at h
      refine hq_icF rfl (hq_c_ne_F c3) ?_
      refine hq_p 2 39 [some (.ref 48), some (.ref k1), some (.int a2), some (.int y2.1)] [.int (4 : Int32), .ref 48] (fun n h => rfl) ?_
      obtain ⟨y4, hy4, h⟩ := hq_bind h
      refine hq_inv rfl rfl (Nat.le_trans (by decide) hd) rfl rfl (hq_rcv rfl rfl) (f_X6_failed_run (Nat.le_sub_of_add_le (Nat.le_trans (by decide) hd)) hy4) rfl ?_
      refine hq_p 2 44 [some (.ref 48), some (.ref k1), some (.int a2), some (.int y2.1)] [.int y2.1] (fun n h => rfl) ?_
      have h := Option.some.inj h
      subst h
      exact ⟨1, rfl⟩
    · rw [if_neg c3] at h
      refine hq_icT rfl (hq_c_ne_T c3) ?_
      refine hq_p 1 44 [some (.ref 48), some (.ref k1), some (.int a2), some (.int y2.1)] [.int y2.1] (fun n h => rfl) ?_
      have h := Option.some.inj h
      subst h
      exact ⟨1, rfl⟩
  · rw [if_neg c1] at h
    refine hq_icF rfl (hq_c_eq_F c1) ?_
    refine hq_p 2 13 [some (.ref 48), some (.ref k1), some (.int a2), none] [.int (1 : Int32), .ref 48] (fun n h => rfl) ?_
    obtain ⟨y5, hy5, h⟩ := hq_bind h
    refine hq_inv rfl rfl (Nat.le_trans (by decide) hd) rfl rfl (hq_rcv rfl rfl) (f_X6_failed_run (Nat.le_sub_of_add_le (Nat.le_trans (by decide) hd)) hy5) rfl ?_
    refine hq_p 1 17 [some (.ref 48), some (.ref k1), some (.int a2), none] [] (fun n h => rfl) ?_
    refine hq_icn (-1 : Int32) rfl (by decide) ?_
    have h := Option.some.inj h
    subst h
    exact ⟨1, rfl⟩
def f_X6_passCorner (n : Nat) (s : hq_S) : Option (Int32 × hq_S) := if hq_isT (hq_gr s 48 1) then if hq_isT (hq_gr s 48 1) then (f_X6_toldOne n ((hq_gr s 48 1) + 1) (hq_gi s (hq_gr s 48 1) 0) s).bind fun y3 => if y3.1 = (-1 : Int32) then some (y3.1, y3.2) else (f_X9_advance n y3.2).bind fun s5 => some (y3.1, s5) else none else none
theorem f_X6_passCorner_run {xs : List Int32} {n d g : Nat} {s : hq_S} {y : (Int32 × hq_S)} (hd : 2 ≤ d) (h : f_X6_passCorner n s = some y) : hq_R (mm_O xs) d mc_X6_passCorner 0 [some (.ref 48), none] [] s g (some (.int y.1)) y.2 := by
  unfold f_X6_passCorner at h
  refine hq_p 2 2 [some (.ref 48), none] [.ref 48, .ref 48] (fun n h => rfl) ?_
  refine hq_gf (x := .ref (hq_gr s 48 1)) rfl rfl rfl rfl rfl ?_
  have m1 : hq_isT (hq_gr s 48 1) := hq_ifT h
  rw [if_pos m1] at h
  refine hq_gf (x := .ref ((hq_gr s 48 1) + 1)) rfl (hq_shT m1) rfl rfl (hq_fldr (hq_shT_u m1)) ?_
  refine hq_p 1 9 [some (.ref 48), none] [.ref 48, .ref ((hq_gr s 48 1) + 1), .ref 48] (fun n h => rfl) ?_
  refine hq_gf (x := .ref (hq_gr s 48 1)) rfl rfl rfl rfl rfl ?_
  have m2 : hq_isT (hq_gr s 48 1) := hq_ifT h
  rw [if_pos m2] at h
  refine hq_gf (x := .int (hq_gi s (hq_gr s 48 1) 0)) rfl (hq_shT m2) rfl rfl rfl ?_
  obtain ⟨y3, hy3, h⟩ := hq_bind h
  refine hq_inv rfl rfl (Nat.le_trans (by decide) hd) rfl rfl (hq_rcv rfl rfl) (f_X6_toldOne_run (Nat.le_sub_of_add_le (Nat.le_trans (by decide) hd)) hy3) rfl ?_
  refine hq_p 2 20 [some (.ref 48), some (.int y3.1)] [.int y3.1] (fun n h => rfl) ?_
  refine hq_icn (-1 : Int32) rfl (by decide) ?_
  by_cases c4 : y3.1 = (-1 : Int32)
  · rw [if_pos c4] at h
    refine hq_icT rfl (hq_c_eq_T c4) ?_
    refine hq_p 1 32 [some (.ref 48), some (.int y3.1)] [.int y3.1] (fun n h => rfl) ?_
    have h := Option.some.inj h
    subst h
    exact ⟨1, rfl⟩
  · rw [if_neg c4] at h
    refine hq_icF rfl (hq_c_eq_F c4) ?_
    refine hq_p 1 25 [some (.ref 48), some (.int y3.1)] [.ref 48] (fun n h => rfl) ?_
    refine hq_gf (x := .ref 49) rfl rfl rfl rfl rfl ?_
    obtain ⟨s5, hs5, h⟩ := hq_bind h
    refine hq_inv rfl rfl (Nat.le_trans (by decide) hd) rfl rfl (hq_rcv rfl rfl) (f_X9_advance_run (Nat.le_sub_of_add_le (Nat.le_trans (by decide) hd)) hs5) rfl ?_
    refine hq_p 1 32 [some (.ref 48), some (.int y3.1)] [.int y3.1] (fun n h => rfl) ?_
    have h := Option.some.inj h
    subst h
    exact ⟨1, rfl⟩
def f_X10_isOneWay (n : Nat) (k0 : Nat) (a1 : Int32) (s : hq_S) : Option (Int32 × hq_S) := if (((hq_gi s k0 6) >>> (a1 &&& 31)) &&& (1 : Int32)) = (1 : Int32) then some ((1 : Int32), s) else some ((0 : Int32), s)
theorem f_X10_isOneWay_run {xs : List Int32} {n d g : Nat} {k0 : Nat} {a1 : Int32} {s : hq_S} {y : (Int32 × hq_S)} (hd : 0 ≤ d) (m0_ : hq_isT k0) (h : f_X10_isOneWay n k0 a1 s = some y) : hq_R (mm_O xs) d mc_X10_isOneWay 0 [some (.ref k0), some (.int a1)] [] s g (some (.int y.1)) y.2 := by
  unfold f_X10_isOneWay at h
  refine hq_p 1 1 [some (.ref k0), some (.int a1)] [.ref k0] (fun n h => rfl) ?_
  refine hq_gf (x := .int (hq_gi s k0 6)) rfl (hq_shT m0_) rfl rfl rfl ?_
  refine hq_p 5 9 [some (.ref k0), some (.int a1)] [.int (1 : Int32), .int (((hq_gi s k0 6) >>> (a1 &&& 31)) &&& (1 : Int32))] (fun n h => rfl) ?_
  by_cases c1 : (((hq_gi s k0 6) >>> (a1 &&& 31)) &&& (1 : Int32)) = (1 : Int32)
  · rw [if_pos c1] at h
    refine hq_icF rfl (hq_c_ne_F c1) ?_
    refine hq_p 2 17 [some (.ref k0), some (.int a1)] [.int (1 : Int32)] (fun n h => rfl) ?_
    have h := Option.some.inj h
    subst h
    exact ⟨1, rfl⟩
  · rw [if_neg c1] at h
    refine hq_icT rfl (hq_c_ne_T c1) ?_
    refine hq_p 1 17 [some (.ref k0), some (.int a1)] [.int (0 : Int32)] (fun n h => rfl) ?_
    have h := Option.some.inj h
    subst h
    exact ⟨1, rfl⟩
def f_X10_hasLane_J91 (n : Nat) (q3 : Nat → Int32 → Int32 → Int32 → Int32 → hq_S → Option (Int32 × hq_S)) (k0 : Nat) (a1 : Int32) (a2 : Int32) (a3 : Int32) (a4 : Int32) (a5 : Int32) (s : hq_S) : Option (Int32 × hq_S) := q3 k0 a1 a2 a3 (a4 + (1 : Int32)) s
theorem f_X10_hasLane_J91_run {xs : List Int32} {n d g : Nat} {k0 : Nat} {a1 : Int32} {a2 : Int32} {a3 : Int32} {a4 : Int32} {a5 : Int32} {q3 : Nat → Int32 → Int32 → Int32 → Int32 → hq_S → Option (Int32 × hq_S)} {s : hq_S} {y : (Int32 × hq_S)} (hd : 1 ≤ d) (e3 : ∀ (k0 : Nat) (a1 : Int32) (a2 : Int32) (a3 : Int32) (a4 : Int32) (o5 : Option Value) (s : hq_S) (m0_ : hq_isT k0), q3 k0 a1 a2 a3 a4 s = some y → hq_R (mm_O xs) d mc_X10_hasLane 3 [some (.ref k0), some (.int a1), some (.int a2), some (.int a3), some (.int a4), o5] [] s g (some (.int y.1)) y.2) (m0_ : hq_isT k0) (h : f_X10_hasLane_J91 n q3 k0 a1 a2 a3 a4 a5 s = some y) : hq_R (mm_O xs) d mc_X10_hasLane 91 [some (.ref k0), some (.int a1), some (.int a2), some (.int a3), some (.int a4), some (.int a5)] [] s g (some (.int y.1)) y.2 := by
  unfold f_X10_hasLane_J91 at h
  refine hq_p 2 3 [some (.ref k0), some (.int a1), some (.int a2), some (.int a3), some (.int (a4 + (1 : Int32))), some (.int a5)] [] (fun n h => rfl) ?_
  exact e3 k0 a1 a2 a3 (a4 + (1 : Int32)) _ s m0_ h
def f_X10_hasLane_J58 (n : Nat) (q3 : Nat → Int32 → Int32 → Int32 → Int32 → hq_S → Option (Int32 × hq_S)) (k0 : Nat) (a1 : Int32) (a2 : Int32) (a3 : Int32) (a4 : Int32) (a5 : Int32) (s : hq_S) : Option (Int32 × hq_S) := if a5 = 0 then f_X10_hasLane_J91 n q3 k0 a1 a2 a3 a4 a5 s else if a3 = 0 then (hq_ld s (k0 + 3) 20 a4).bind fun x8 => if x8 = a2 then (hq_ld s (k0 + 4) 20 a4).bind fun x10 => if x10 = a1 then some ((1 : Int32), s) else f_X10_hasLane_J91 n q3 k0 a1 a2 a3 a4 a5 s else f_X10_hasLane_J91 n q3 k0 a1 a2 a3 a4 a5 s else f_X10_hasLane_J91 n q3 k0 a1 a2 a3 a4 a5 s
theorem f_X10_hasLane_J58_run {xs : List Int32} {n d g : Nat} {k0 : Nat} {a1 : Int32} {a2 : Int32} {a3 : Int32} {a4 : Int32} {a5 : Int32} {q3 : Nat → Int32 → Int32 → Int32 → Int32 → hq_S → Option (Int32 × hq_S)} {s : hq_S} {y : (Int32 × hq_S)} (hd : 1 ≤ d) (e3 : ∀ (k0 : Nat) (a1 : Int32) (a2 : Int32) (a3 : Int32) (a4 : Int32) (o5 : Option Value) (s : hq_S) (m0_ : hq_isT k0), q3 k0 a1 a2 a3 a4 s = some y → hq_R (mm_O xs) d mc_X10_hasLane 3 [some (.ref k0), some (.int a1), some (.int a2), some (.int a3), some (.int a4), o5] [] s g (some (.int y.1)) y.2) (m0_ : hq_isT k0) (h : f_X10_hasLane_J58 n q3 k0 a1 a2 a3 a4 a5 s = some y) : hq_R (mm_O xs) d mc_X10_hasLane 58 [some (.ref k0), some (.int a1), some (.int a2), some (.int a3), some (.int a4), some (.int a5)] [] s g (some (.int y.1)) y.2 := by
  unfold f_X10_hasLane_J58 at h
  refine hq_p 1 60 [some (.ref k0), some (.int a1), some (.int a2), some (.int a3), some (.int a4), some (.int a5)] [.int a5] (fun n h => rfl) ?_
  by_cases c6 : a5 = 0
  · rw [if_pos c6] at h
    refine hq_izT rfl (hq_c_eq_T c6) ?_
    exact f_X10_hasLane_J91_run hd e3 m0_ h
  · rw [if_neg c6] at h
    refine hq_izF rfl (hq_c_eq_F c6) ?_
    refine hq_p 1 64 [some (.ref k0), some (.int a1), some (.int a2), some (.int a3), some (.int a4), some (.int a5)] [.int a3] (fun n h => rfl) ?_
    by_cases c7 : a3 = 0
    · rw [if_pos c7] at h
      refine hq_izF rfl (hq_c_ne_F c7) ?_
      refine hq_p 1 68 [some (.ref k0), some (.int a1), some (.int a2), some (.int a3), some (.int a4), some (.int a5)] [.ref k0] (fun n h => rfl) ?_
      refine hq_gf (x := .ref (k0 + 3)) rfl (hq_shT m0_) rfl rfl (hq_fldr (hq_shT_u m0_)) ?_
      refine hq_p 1 73 [some (.ref k0), some (.int a1), some (.int a2), some (.int a3), some (.int a4), some (.int a5)] [.int a4, .ref (k0 + 3)] (fun n h => rfl) ?_
      obtain ⟨x8, hx8, h⟩ := hq_bind h
      refine hq_iaload rfl (hq_shT_3 m0_) List.length_replicate hx8 ?_
      refine hq_p 1 75 [some (.ref k0), some (.int a1), some (.int a2), some (.int a3), some (.int a4), some (.int a5)] [.int a2, .int x8] (fun n h => rfl) ?_
      by_cases c9 : x8 = a2
      · rw [if_pos c9] at h
        refine hq_icF rfl (hq_c_ne_F c9) ?_
        refine hq_p 1 79 [some (.ref k0), some (.int a1), some (.int a2), some (.int a3), some (.int a4), some (.int a5)] [.ref k0] (fun n h => rfl) ?_
        refine hq_gf (x := .ref (k0 + 4)) rfl (hq_shT m0_) rfl rfl (hq_fldr (hq_shT_u m0_)) ?_
        refine hq_p 1 84 [some (.ref k0), some (.int a1), some (.int a2), some (.int a3), some (.int a4), some (.int a5)] [.int a4, .ref (k0 + 4)] (fun n h => rfl) ?_
        obtain ⟨x10, hx10, h⟩ := hq_bind h
        refine hq_iaload rfl (hq_shT_4 m0_) List.length_replicate hx10 ?_
        refine hq_p 1 86 [some (.ref k0), some (.int a1), some (.int a2), some (.int a3), some (.int a4), some (.int a5)] [.int a1, .int x10] (fun n h => rfl) ?_
        by_cases c11 : x10 = a1
        · rw [if_pos c11] at h
          refine hq_icF rfl (hq_c_ne_F c11) ?_
          refine hq_p 1 90 [some (.ref k0), some (.int a1), some (.int a2), some (.int a3), some (.int a4), some (.int a5)] [.int (1 : Int32)] (fun n h => rfl) ?_
          have h := Option.some.inj h
          subst h
          exact ⟨1, rfl⟩
        · rw [if_neg c11] at h
          refine hq_icT rfl (hq_c_ne_T c11) ?_
          exact f_X10_hasLane_J91_run hd e3 m0_ h
      · rw [if_neg c9] at h
        refine hq_icT rfl (hq_c_ne_T c9) ?_
        exact f_X10_hasLane_J91_run hd e3 m0_ h
    · rw [if_neg c7] at h
      refine hq_izT rfl (hq_c_ne_T c7) ?_
      exact f_X10_hasLane_J91_run hd e3 m0_ h
def f_X10_hasLane_L3_B (n : Nat) (q3 : Nat → Int32 → Int32 → Int32 → Int32 → hq_S → Option (Int32 × hq_S)) (k0 : Nat) (a1 : Int32) (a2 : Int32) (a3 : Int32) (a4 : Int32) (s : hq_S) : Option (Int32 × hq_S) := if a4 < (hq_gi s k0 3) then (f_X10_isOneWay n k0 a4 s).bind fun y2 => (if a3 = y2.1 then some (1 : Int32) else some (0 : Int32)).bind fun z3 => if z3 = 0 then f_X10_hasLane_J58 n q3 k0 a1 a2 a3 a4 z3 y2.2 else (hq_ld y2.2 (k0 + 3) 20 a4).bind fun x12 => if x12 = a1 then (hq_ld y2.2 (k0 + 4) 20 a4).bind fun x14 => if x14 = a2 then some ((1 : Int32), y2.2) else f_X10_hasLane_J58 n q3 k0 a1 a2 a3 a4 z3 y2.2 else f_X10_hasLane_J58 n q3 k0 a1 a2 a3 a4 z3 y2.2 else some ((0 : Int32), s)
def f_X10_hasLane_L3 (n : Nat) (m : Nat) : Nat → Int32 → Int32 → Int32 → Int32 → hq_S → Option (Int32 × hq_S) := Nat.rec (fun _ _ _ _ _ _ => none) (fun _ q => f_X10_hasLane_L3_B n q) m
theorem f_X10_hasLane_L3_Brun {xs : List Int32} {n d g : Nat} {k0 : Nat} {a1 : Int32} {a2 : Int32} {a3 : Int32} {a4 : Int32} {o5 : Option Value} {q3 : Nat → Int32 → Int32 → Int32 → Int32 → hq_S → Option (Int32 × hq_S)} {s : hq_S} {y : (Int32 × hq_S)} (hd : 1 ≤ d) (e3 : ∀ (k0 : Nat) (a1 : Int32) (a2 : Int32) (a3 : Int32) (a4 : Int32) (o5 : Option Value) (s : hq_S) (m0_ : hq_isT k0), q3 k0 a1 a2 a3 a4 s = some y → hq_R (mm_O xs) d mc_X10_hasLane 3 [some (.ref k0), some (.int a1), some (.int a2), some (.int a3), some (.int a4), o5] [] s g (some (.int y.1)) y.2) (m0_ : hq_isT k0) (h : f_X10_hasLane_L3_B n q3 k0 a1 a2 a3 a4 s = some y) : hq_R (mm_O xs) d mc_X10_hasLane 3 [some (.ref k0), some (.int a1), some (.int a2), some (.int a3), some (.int a4), o5] [] s g (some (.int y.1)) y.2 := by
  unfold f_X10_hasLane_L3_B at h
  refine hq_p 2 6 [some (.ref k0), some (.int a1), some (.int a2), some (.int a3), some (.int a4), o5] [.ref k0, .int a4] (fun n h => rfl) ?_
  refine hq_gf (x := .int (hq_gi s k0 3)) rfl (hq_shT m0_) rfl rfl rfl ?_
  by_cases c1 : a4 < (hq_gi s k0 3)
  · rw [if_pos c1] at h
    refine hq_icF rfl (hq_c_ge_F c1) ?_
    refine hq_p 3 16 [some (.ref k0), some (.int a1), some (.int a2), some (.int a3), some (.int a4), o5] [.int a4, .ref k0, .int a3] (fun n h => rfl) ?_
    obtain ⟨y2, hy2, h⟩ := hq_bind h
    refine hq_inv rfl rfl (Nat.le_trans (by decide) hd) rfl rfl (hq_rcv (hq_shT m0_) rfl) (f_X10_isOneWay_run (Nat.le_sub_of_add_le (Nat.le_trans (by decide) hd)) m0_ hy2) rfl ?_
    obtain ⟨z3, hz3, h⟩ := hq_bind h
    suffices hT : hq_R (mm_O xs) d mc_X10_hasLane 27 [some (.ref k0), some (.int a1), some (.int a2), some (.int a3), some (.int a4), o5] [.int z3] y2.2 g (some (.int y.1)) y.2 from by
      clear h
      have h := hz3
      by_cases c4 : a3 = y2.1
      · rw [if_pos c4] at h
        refine hq_icF rfl (hq_c_ne_F c4) ?_
        refine hq_p 2 27 [some (.ref k0), some (.int a1), some (.int a2), some (.int a3), some (.int a4), o5] [.int (1 : Int32)] (fun n h => rfl) ?_
        cases h
        exact hT
      · rw [if_neg c4] at h
        refine hq_icT rfl (hq_c_ne_T c4) ?_
        refine hq_p 1 27 [some (.ref k0), some (.int a1), some (.int a2), some (.int a3), some (.int a4), o5] [.int (0 : Int32)] (fun n h => rfl) ?_
        cases h
        exact hT
    refine hq_p 2 31 [some (.ref k0), some (.int a1), some (.int a2), some (.int a3), some (.int a4), some (.int z3)] [.int z3] (fun n h => rfl) ?_
    by_cases c5 : z3 = 0
    · rw [if_pos c5] at h
      refine hq_izT rfl (hq_c_eq_T c5) ?_
      exact f_X10_hasLane_J58_run hd e3 m0_ h
    · rw [if_neg c5] at h
      refine hq_izF rfl (hq_c_eq_F c5) ?_
      refine hq_p 1 35 [some (.ref k0), some (.int a1), some (.int a2), some (.int a3), some (.int a4), some (.int z3)] [.ref k0] (fun n h => rfl) ?_
      refine hq_gf (x := .ref (k0 + 3)) rfl (hq_shT m0_) rfl rfl (hq_fldr (hq_shT_u m0_)) ?_
      refine hq_p 1 40 [some (.ref k0), some (.int a1), some (.int a2), some (.int a3), some (.int a4), some (.int z3)] [.int a4, .ref (k0 + 3)] (fun n h => rfl) ?_
      obtain ⟨x12, hx12, h⟩ := hq_bind h
      refine hq_iaload rfl (hq_shT_3 m0_) List.length_replicate hx12 ?_
      refine hq_p 1 42 [some (.ref k0), some (.int a1), some (.int a2), some (.int a3), some (.int a4), some (.int z3)] [.int a1, .int x12] (fun n h => rfl) ?_
      by_cases c13 : x12 = a1
      · rw [if_pos c13] at h
        refine hq_icF rfl (hq_c_ne_F c13) ?_
        refine hq_p 1 46 [some (.ref k0), some (.int a1), some (.int a2), some (.int a3), some (.int a4), some (.int z3)] [.ref k0] (fun n h => rfl) ?_
        refine hq_gf (x := .ref (k0 + 4)) rfl (hq_shT m0_) rfl rfl (hq_fldr (hq_shT_u m0_)) ?_
        refine hq_p 1 51 [some (.ref k0), some (.int a1), some (.int a2), some (.int a3), some (.int a4), some (.int z3)] [.int a4, .ref (k0 + 4)] (fun n h => rfl) ?_
        obtain ⟨x14, hx14, h⟩ := hq_bind h
        refine hq_iaload rfl (hq_shT_4 m0_) List.length_replicate hx14 ?_
        refine hq_p 1 53 [some (.ref k0), some (.int a1), some (.int a2), some (.int a3), some (.int a4), some (.int z3)] [.int a2, .int x14] (fun n h => rfl) ?_
        by_cases c15 : x14 = a2
        · rw [if_pos c15] at h
          refine hq_icF rfl (hq_c_ne_F c15) ?_
          refine hq_p 1 57 [some (.ref k0), some (.int a1), some (.int a2), some (.int a3), some (.int a4), some (.int z3)] [.int (1 : Int32)] (fun n h => rfl) ?_
          have h := Option.some.inj h
          subst h
          exact ⟨1, rfl⟩
        · rw [if_neg c15] at h
          refine hq_icT rfl (hq_c_ne_T c15) ?_
          exact f_X10_hasLane_J58_run hd e3 m0_ h
      · rw [if_neg c13] at h
        refine hq_icT rfl (hq_c_ne_T c13) ?_
        exact f_X10_hasLane_J58_run hd e3 m0_ h
  · rw [if_neg c1] at h
    refine hq_icT rfl (hq_c_ge_T c1) ?_
    refine hq_p 1 98 [some (.ref k0), some (.int a1), some (.int a2), some (.int a3), some (.int a4), o5] [.int (0 : Int32)] (fun n h => rfl) ?_
    have h := Option.some.inj h
    subst h
    exact ⟨1, rfl⟩
theorem f_X10_hasLane_L3_run {xs : List Int32} {n m d g : Nat} {k0 : Nat} {a1 : Int32} {a2 : Int32} {a3 : Int32} {a4 : Int32} {o5 : Option Value} {s : hq_S} {y : (Int32 × hq_S)} (hd : 1 ≤ d) (m0_ : hq_isT k0) (h : f_X10_hasLane_L3 n m k0 a1 a2 a3 a4 s = some y) : hq_R (mm_O xs) d mc_X10_hasLane 3 [some (.ref k0), some (.int a1), some (.int a2), some (.int a3), some (.int a4), o5] [] s g (some (.int y.1)) y.2 := by
  induction m generalizing k0 a1 a2 a3 a4 o5 s with
  | zero => cases h
  | succ m ih => exact f_X10_hasLane_L3_Brun (n := n) hd (fun k0 a1 a2 a3 a4 o5 s m0_ h => ih m0_ h) m0_ h
def f_X10_hasLane (n : Nat) (k0 : Nat) (a1 : Int32) (a2 : Int32) (a3 : Int32) (s : hq_S) : Option (Int32 × hq_S) := f_X10_hasLane_L3 n n k0 a1 a2 a3 (0 : Int32) s
theorem f_X10_hasLane_run {xs : List Int32} {n d g : Nat} {k0 : Nat} {a1 : Int32} {a2 : Int32} {a3 : Int32} {s : hq_S} {y : (Int32 × hq_S)} (hd : 1 ≤ d) (m0_ : hq_isT k0) (h : f_X10_hasLane n k0 a1 a2 a3 s = some y) : hq_R (mm_O xs) d mc_X10_hasLane 0 [some (.ref k0), some (.int a1), some (.int a2), some (.int a3), none, none] [] s g (some (.int y.1)) y.2 := by
  unfold f_X10_hasLane at h
  refine hq_p 2 3 [some (.ref k0), some (.int a1), some (.int a2), some (.int a3), some (.int (0 : Int32)), none] [] (fun n h => rfl) ?_
  exact f_X10_hasLane_L3_run hd m0_ h
def f_X10_addLane (n : Nat) (k0 : Nat) (a1 : Int32) (a2 : Int32) (a3 : Int32) (s : hq_S) : Option (Int32 × hq_S) := if (hq_gi s k0 3) < (20 : Int32) then (hq_st s (k0 + 3) 20 (hq_gi s k0 3) a1).bind fun s2 => (hq_st s2 (k0 + 4) 20 (hq_gi s2 k0 3) a2).bind fun s3 => (if a3 = 0 then some (0 : Int32) else some ((1 : Int32) <<< ((hq_gi s3 k0 3) &&& 31))).bind fun z4 => (hq_pi s3 k0 6 0 ((hq_gi s3 k0 6) ||| z4)).bind fun s6 => (hq_pi s6 k0 3 0 ((hq_gi s6 k0 3) + (1 : Int32))).bind fun s7 => some ((1 : Int32), s7) else some ((0 : Int32), s)
theorem f_X10_addLane_run {xs : List Int32} {n d g : Nat} {k0 : Nat} {a1 : Int32} {a2 : Int32} {a3 : Int32} {s : hq_S} {y : (Int32 × hq_S)} (hd : 0 ≤ d) (m0_ : hq_isT k0) (h : f_X10_addLane n k0 a1 a2 a3 s = some y) : hq_R (mm_O xs) d mc_X10_addLane 0 [some (.ref k0), some (.int a1), some (.int a2), some (.int a3)] [] s g (some (.int y.1)) y.2 := by
  unfold f_X10_addLane at h
  refine hq_p 1 1 [some (.ref k0), some (.int a1), some (.int a2), some (.int a3)] [.ref k0] (fun n h => rfl) ?_
  refine hq_gf (x := .int (hq_gi s k0 3)) rfl (hq_shT m0_) rfl rfl rfl ?_
  refine hq_bip (20 : Int32) rfl (by decide) ?_
  by_cases c1 : (hq_gi s k0 3) < (20 : Int32)
  · rw [if_pos c1] at h
    refine hq_icT rfl (hq_c_lt_T c1) ?_
    refine hq_p 1 12 [some (.ref k0), some (.int a1), some (.int a2), some (.int a3)] [.ref k0] (fun n h => rfl) ?_
    refine hq_gf (x := .ref (k0 + 3)) rfl (hq_shT m0_) rfl rfl (hq_fldr (hq_shT_u m0_)) ?_
    refine hq_p 1 16 [some (.ref k0), some (.int a1), some (.int a2), some (.int a3)] [.ref k0, .ref (k0 + 3)] (fun n h => rfl) ?_
    refine hq_gf (x := .int (hq_gi s k0 3)) rfl (hq_shT m0_) rfl rfl rfl ?_
    refine hq_p 1 20 [some (.ref k0), some (.int a1), some (.int a2), some (.int a3)] [.int a1, .int (hq_gi s k0 3), .ref (k0 + 3)] (fun n h => rfl) ?_
    obtain ⟨s2, hs2, h⟩ := hq_bind h
    refine hq_iastore rfl (hq_shT_3 m0_) List.length_replicate hs2 ?_
    refine hq_p 1 22 [some (.ref k0), some (.int a1), some (.int a2), some (.int a3)] [.ref k0] (fun n h => rfl) ?_
    refine hq_gf (x := .ref (k0 + 4)) rfl (hq_shT m0_) rfl rfl (hq_fldr (hq_shT_u m0_)) ?_
    refine hq_p 1 26 [some (.ref k0), some (.int a1), some (.int a2), some (.int a3)] [.ref k0, .ref (k0 + 4)] (fun n h => rfl) ?_
    refine hq_gf (x := .int (hq_gi s2 k0 3)) rfl (hq_shT m0_) rfl rfl rfl ?_
    refine hq_p 1 30 [some (.ref k0), some (.int a1), some (.int a2), some (.int a3)] [.int a2, .int (hq_gi s2 k0 3), .ref (k0 + 4)] (fun n h => rfl) ?_
    obtain ⟨s3, hs3, h⟩ := hq_bind h
    refine hq_iastore rfl (hq_shT_4 m0_) List.length_replicate hs3 ?_
    refine hq_p 2 33 [some (.ref k0), some (.int a1), some (.int a2), some (.int a3)] [.ref k0, .ref k0] (fun n h => rfl) ?_
    refine hq_gf (x := .int (hq_gi s3 k0 6)) rfl (hq_shT m0_) rfl rfl rfl ?_
    refine hq_p 1 37 [some (.ref k0), some (.int a1), some (.int a2), some (.int a3)] [.int a3, .int (hq_gi s3 k0 6), .ref k0] (fun n h => rfl) ?_
    obtain ⟨z4, hz4, h⟩ := hq_bind h
    suffices hT : hq_R (mm_O xs) d mc_X10_addLane 50 [some (.ref k0), some (.int a1), some (.int a2), some (.int a3)] [.int z4, .int (hq_gi s3 k0 6), .ref k0] s3 g (some (.int y.1)) y.2 from by
      clear h
      have h := hz4
      by_cases c5 : a3 = 0
      · rw [if_pos c5] at h
        refine hq_izT rfl (hq_c_eq_T c5) ?_
        refine hq_p 1 50 [some (.ref k0), some (.int a1), some (.int a2), some (.int a3)] [.int (0 : Int32), .int (hq_gi s3 k0 6), .ref k0] (fun n h => rfl) ?_
        cases h
        exact hT
      · rw [if_neg c5] at h
        refine hq_izF rfl (hq_c_eq_F c5) ?_
        refine hq_p 2 42 [some (.ref k0), some (.int a1), some (.int a2), some (.int a3)] [.ref k0, .int (1 : Int32), .int (hq_gi s3 k0 6), .ref k0] (fun n h => rfl) ?_
        refine hq_gf (x := .int (hq_gi s3 k0 3)) rfl (hq_shT m0_) rfl rfl rfl ?_
        refine hq_p 2 50 [some (.ref k0), some (.int a1), some (.int a2), some (.int a3)] [.int ((1 : Int32) <<< ((hq_gi s3 k0 3) &&& 31)), .int (hq_gi s3 k0 6), .ref k0] (fun n h => rfl) ?_
        cases h
        exact hT
    refine hq_p 1 51 [some (.ref k0), some (.int a1), some (.int a2), some (.int a3)] [.int ((hq_gi s3 k0 6) ||| z4), .ref k0] (fun n h => rfl) ?_
    obtain ⟨s6, hs6, h⟩ := hq_bind h
    refine hq_pfi rfl (hq_shT m0_) rfl rfl rfl hs6 ?_
    refine hq_p 2 56 [some (.ref k0), some (.int a1), some (.int a2), some (.int a3)] [.ref k0, .ref k0] (fun n h => rfl) ?_
    refine hq_gf (x := .int (hq_gi s6 k0 3)) rfl (hq_shT m0_) rfl rfl rfl ?_
    refine hq_p 2 61 [some (.ref k0), some (.int a1), some (.int a2), some (.int a3)] [.int ((hq_gi s6 k0 3) + (1 : Int32)), .ref k0] (fun n h => rfl) ?_
    obtain ⟨s7, hs7, h⟩ := hq_bind h
    refine hq_pfi rfl (hq_shT m0_) rfl rfl rfl hs7 ?_
    refine hq_p 1 65 [some (.ref k0), some (.int a1), some (.int a2), some (.int a3)] [.int (1 : Int32)] (fun n h => rfl) ?_
    have h := Option.some.inj h
    subst h
    exact ⟨1, rfl⟩
  · rw [if_neg c1] at h
    refine hq_icF rfl (hq_c_lt_F c1) ?_
    refine hq_p 1 10 [some (.ref k0), some (.int a1), some (.int a2), some (.int a3)] [.int (0 : Int32)] (fun n h => rfl) ?_
    have h := Option.some.inj h
    subst h
    exact ⟨1, rfl⟩
def f_X6_readLane (n : Nat) (s : hq_S) : Option (Int32 × hq_S) := (if (hq_gi s 49 5) = (2 : Int32) then some (1 : Int32) else some (0 : Int32)).bind fun z1 => if hq_isT (hq_gr s 48 1) then (f_X6_passLineWord n (hq_gi s (hq_gr s 48 1) 3) (20 : Int32) s).bind fun y4 => if y4.1 = 0 then some ((0 : Int32), y4.2) else (f_X6_passCorner n y4.2).bind fun y6 => (if y6.1 = (-1 : Int32) then some ((-1 : Int32), y6.2) else if hq_isT (hq_gr y6.2 48 1) then if hq_isT (hq_gr y6.2 48 1) then (f_X6_toldOne n ((hq_gr y6.2 48 1) + 1) (hq_gi y6.2 (hq_gr y6.2 48 1) 0) y6.2).bind fun y11 => some (y11.1, y11.2) else none else none).bind fun z7 => if z7.1 = (-1 : Int32) then some ((0 : Int32), z7.2) else if hq_isT (hq_gr z7.2 48 1) then (f_X10_hasLane n (hq_gr z7.2 48 1) y6.1 z7.1 z1 z7.2).bind fun y14 => if y14.1 = 0 then if y6.1 = z7.1 then (f_X6_failed n (5 : Int32) y14.2).bind fun y20 => if mm_rfit (mm_ret mc_X6_readLane) y20.1 = true then some (y20.1, y20.2) else none else (f_X9_advance n y14.2).bind fun s17 => if hq_isT (hq_gr s17 48 1) then (f_X10_addLane n (hq_gr s17 48 1) y6.1 z7.1 z1 s17).bind fun y19 => if mm_rfit (mm_ret mc_X6_readLane) y19.1 = true then some (y19.1, y19.2) else none else none else (f_X6_failed n (3 : Int32) y14.2).bind fun y21 => if mm_rfit (mm_ret mc_X6_readLane) y21.1 = true then some (y21.1, y21.2) else none else none else none
theorem f_X6_readLane_run {xs : List Int32} {n d g : Nat} {s : hq_S} {y : (Int32 × hq_S)} (hd : 3 ≤ d) (h : f_X6_readLane n s = some y) : hq_R (mm_O xs) d mc_X6_readLane 0 [some (.ref 48), none, none, none] [] s g (some (.int y.1)) y.2 := by
  unfold f_X6_readLane at h
  refine hq_p 1 1 [some (.ref 48), none, none, none] [.ref 48] (fun n h => rfl) ?_
  refine hq_gf (x := .ref 49) rfl rfl rfl rfl rfl ?_
  refine hq_gf (x := .int (hq_gi s 49 5)) rfl rfl rfl rfl rfl ?_
  refine hq_p 1 8 [some (.ref 48), none, none, none] [.int (2 : Int32), .int (hq_gi s 49 5)] (fun n h => rfl) ?_
  obtain ⟨z1, hz1, h⟩ := hq_bind h
  suffices hT : hq_R (mm_O xs) d mc_X6_readLane 16 [some (.ref 48), none, none, none] [.int z1] s g (some (.int y.1)) y.2 from by
    clear h
    have h := hz1
    by_cases c2 : (hq_gi s 49 5) = (2 : Int32)
    · rw [if_pos c2] at h
      refine hq_icF rfl (hq_c_ne_F c2) ?_
      refine hq_p 2 16 [some (.ref 48), none, none, none] [.int (1 : Int32)] (fun n h => rfl) ?_
      cases h
      exact hT
    · rw [if_neg c2] at h
      refine hq_icT rfl (hq_c_ne_T c2) ?_
      refine hq_p 1 16 [some (.ref 48), none, none, none] [.int (0 : Int32)] (fun n h => rfl) ?_
      cases h
      exact hT
  refine hq_p 3 19 [some (.ref 48), some (.int z1), none, none] [.ref 48, .ref 48] (fun n h => rfl) ?_
  refine hq_gf (x := .ref (hq_gr s 48 1)) rfl rfl rfl rfl rfl ?_
  have m3 : hq_isT (hq_gr s 48 1) := hq_ifT h
  rw [if_pos m3] at h
  refine hq_gf (x := .int (hq_gi s (hq_gr s 48 1) 3)) rfl (hq_shT m3) rfl rfl rfl ?_
  refine hq_bip (20 : Int32) rfl (by decide) ?_
  obtain ⟨y4, hy4, h⟩ := hq_bind h
  refine hq_inv rfl rfl (Nat.le_trans (by decide) hd) rfl rfl (hq_rcv rfl rfl) (f_X6_passLineWord_run (Nat.le_sub_of_add_le (Nat.le_trans (by decide) hd)) hy4) rfl ?_
  by_cases c5 : y4.1 = 0
  · rw [if_pos c5] at h
    refine hq_izF rfl (hq_c_ne_F c5) ?_
    refine hq_p 1 34 [some (.ref 48), some (.int z1), none, none] [.int (0 : Int32)] (fun n h => rfl) ?_
    have h := Option.some.inj h
    subst h
    exact ⟨1, rfl⟩
  · rw [if_neg c5] at h
    refine hq_izT rfl (hq_c_ne_T c5) ?_
    refine hq_p 1 36 [some (.ref 48), some (.int z1), none, none] [.ref 48] (fun n h => rfl) ?_
    obtain ⟨y6, hy6, h⟩ := hq_bind h
    refine hq_inv rfl rfl (Nat.le_trans (by decide) hd) rfl rfl (hq_rcv rfl rfl) (f_X6_passCorner_run (Nat.le_sub_of_add_le (Nat.le_trans (by decide) hd)) hy6) rfl ?_
    refine hq_p 2 41 [some (.ref 48), some (.int z1), some (.int y6.1), none] [.int y6.1] (fun n h => rfl) ?_
    refine hq_icn (-1 : Int32) rfl (by decide) ?_
    obtain ⟨z7, hz7, h⟩ := hq_bind h
    suffices hT : hq_R (mm_O xs) d mc_X6_readLane 67 [some (.ref 48), some (.int z1), some (.int y6.1), none] [.int z7.1] z7.2 g (some (.int y.1)) y.2 from by
      clear h
      have h := hz7
      by_cases c8 : y6.1 = (-1 : Int32)
      · rw [if_pos c8] at h
        refine hq_icF rfl (hq_c_ne_F c8) ?_
        refine hq_icn (-1 : Int32) rfl (by decide) ?_
        refine hq_p 1 67 [some (.ref 48), some (.int z1), some (.int y6.1), none] [.int (-1 : Int32)] (fun n h => rfl) ?_
        cases h
        exact hT
      · rw [if_neg c8] at h
        refine hq_icT rfl (hq_c_ne_T c8) ?_
        refine hq_p 2 51 [some (.ref 48), some (.int z1), some (.int y6.1), none] [.ref 48, .ref 48] (fun n h => rfl) ?_
        refine hq_gf (x := .ref (hq_gr y6.2 48 1)) rfl rfl rfl rfl rfl ?_
        have m9 : hq_isT (hq_gr y6.2 48 1) := hq_ifT h
        rw [if_pos m9] at h
        refine hq_gf (x := .ref ((hq_gr y6.2 48 1) + 1)) rfl (hq_shT m9) rfl rfl (hq_fldr (hq_shT_u m9)) ?_
        refine hq_p 1 58 [some (.ref 48), some (.int z1), some (.int y6.1), none] [.ref 48, .ref ((hq_gr y6.2 48 1) + 1), .ref 48] (fun n h => rfl) ?_
        refine hq_gf (x := .ref (hq_gr y6.2 48 1)) rfl rfl rfl rfl rfl ?_
        have m10 : hq_isT (hq_gr y6.2 48 1) := hq_ifT h
        rw [if_pos m10] at h
        refine hq_gf (x := .int (hq_gi y6.2 (hq_gr y6.2 48 1) 0)) rfl (hq_shT m10) rfl rfl rfl ?_
        obtain ⟨y11, hy11, h⟩ := hq_bind h
        refine hq_inv rfl rfl (Nat.le_trans (by decide) hd) rfl rfl (hq_rcv rfl rfl) (f_X6_toldOne_run (Nat.le_sub_of_add_le (Nat.le_trans (by decide) hd)) hy11) rfl ?_
        cases h
        exact hT
    refine hq_p 2 69 [some (.ref 48), some (.int z1), some (.int y6.1), some (.int z7.1)] [.int z7.1] (fun n h => rfl) ?_
    refine hq_icn (-1 : Int32) rfl (by decide) ?_
    by_cases c12 : z7.1 = (-1 : Int32)
    · rw [if_pos c12] at h
      refine hq_icF rfl (hq_c_ne_F c12) ?_
      refine hq_p 1 74 [some (.ref 48), some (.int z1), some (.int y6.1), some (.int z7.1)] [.int (0 : Int32)] (fun n h => rfl) ?_
      have h := Option.some.inj h
      subst h
      exact ⟨1, rfl⟩
    · rw [if_neg c12] at h
      refine hq_icT rfl (hq_c_ne_T c12) ?_
      refine hq_p 1 76 [some (.ref 48), some (.int z1), some (.int y6.1), some (.int z7.1)] [.ref 48] (fun n h => rfl) ?_
      refine hq_gf (x := .ref (hq_gr z7.2 48 1)) rfl rfl rfl rfl rfl ?_
      have m13 : hq_isT (hq_gr z7.2 48 1) := hq_ifT h
      rw [if_pos m13] at h
      refine hq_p 3 82 [some (.ref 48), some (.int z1), some (.int y6.1), some (.int z7.1)] [.int z1, .int z7.1, .int y6.1, .ref (hq_gr z7.2 48 1)] (fun n h => rfl) ?_
      obtain ⟨y14, hy14, h⟩ := hq_bind h
      refine hq_inv rfl rfl (Nat.le_trans (by decide) hd) rfl rfl (hq_rcv (hq_shT m13) rfl) (f_X10_hasLane_run (Nat.le_sub_of_add_le (Nat.le_trans (by decide) hd)) m13 hy14) rfl ?_
      by_cases c15 : y14.1 = 0
      · rw [if_pos c15] at h
        refine hq_izT rfl (hq_c_eq_T c15) ?_
        refine hq_p 2 96 [some (.ref 48), some (.int z1), some (.int y6.1), some (.int z7.1)] [.int z7.1, .int y6.1] (fun n h => rfl) ?_
        by_cases c16 : y6.1 = z7.1
        · rw [if_pos c16] at h
          refine hq_icF rfl (hq_c_ne_F c16) ?_
          refine hq_p 2 101 [some (.ref 48), some (.int z1), some (.int y6.1), some (.int z7.1)] [.int (5 : Int32), .ref 48] (fun n h => rfl) ?_
          obtain ⟨y20, hy20, h⟩ := hq_bind h
          refine hq_inv rfl rfl (Nat.le_trans (by decide) hd) rfl rfl (hq_rcv rfl rfl) (f_X6_failed_run (Nat.le_sub_of_add_le (Nat.le_trans (by decide) hd)) hy20) rfl ?_
          have hr : mm_rfit (mm_ret mc_X6_readLane) y20.1 = true := hq_ifT h
          rw [if_pos hr] at h
          have h := Option.some.inj h
          subst h
          exact hq_iret rfl hr
        · rw [if_neg c16] at h
          refine hq_icT rfl (hq_c_ne_T c16) ?_
          refine hq_p 1 106 [some (.ref 48), some (.int z1), some (.int y6.1), some (.int z7.1)] [.ref 48] (fun n h => rfl) ?_
          refine hq_gf (x := .ref 49) rfl rfl rfl rfl rfl ?_
          obtain ⟨s17, hs17, h⟩ := hq_bind h
          refine hq_inv rfl rfl (Nat.le_trans (by decide) hd) rfl rfl (hq_rcv rfl rfl) (f_X9_advance_run (Nat.le_sub_of_add_le (Nat.le_trans (by decide) hd)) hs17) rfl ?_
          refine hq_p 1 113 [some (.ref 48), some (.int z1), some (.int y6.1), some (.int z7.1)] [.ref 48] (fun n h => rfl) ?_
          refine hq_gf (x := .ref (hq_gr s17 48 1)) rfl rfl rfl rfl rfl ?_
          have m18 : hq_isT (hq_gr s17 48 1) := hq_ifT h
          rw [if_pos m18] at h
          refine hq_p 3 119 [some (.ref 48), some (.int z1), some (.int y6.1), some (.int z7.1)] [.int z1, .int z7.1, .int y6.1, .ref (hq_gr s17 48 1)] (fun n h => rfl) ?_
          obtain ⟨y19, hy19, h⟩ := hq_bind h
          refine hq_inv rfl rfl (Nat.le_trans (by decide) hd) rfl rfl (hq_rcv (hq_shT m18) rfl) (f_X10_addLane_run (Nat.le_sub_of_add_le (Nat.le_trans (by decide) hd)) m18 hy19) rfl ?_
          have hr : mm_rfit (mm_ret mc_X6_readLane) y19.1 = true := hq_ifT h
          rw [if_pos hr] at h
          have h := Option.some.inj h
          subst h
          exact hq_iret rfl hr
      · rw [if_neg c15] at h
        refine hq_izF rfl (hq_c_eq_F c15) ?_
        refine hq_p 2 90 [some (.ref 48), some (.int z1), some (.int y6.1), some (.int z7.1)] [.int (3 : Int32), .ref 48] (fun n h => rfl) ?_
        obtain ⟨y21, hy21, h⟩ := hq_bind h
        refine hq_inv rfl rfl (Nat.le_trans (by decide) hd) rfl rfl (hq_rcv rfl rfl) (f_X6_failed_run (Nat.le_sub_of_add_le (Nat.le_trans (by decide) hd)) hy21) rfl ?_
        have hr : mm_rfit (mm_ret mc_X6_readLane) y21.1 = true := hq_ifT h
        rw [if_pos hr] at h
        have h := Option.some.inj h
        subst h
        exact hq_iret rfl hr
def f_X10_addGuard (n : Nat) (k0 : Nat) (a1 : Int32) (a2 : Int32) (s : hq_S) : Option (Int32 × hq_S) := if (hq_gi s k0 7) < (3 : Int32) then (hq_st s (k0 + 5) 3 (hq_gi s k0 7) a1).bind fun s2 => (hq_st s2 ((k0 + 14) + 2) 3 (hq_gi s2 k0 7) a2).bind fun s3 => (hq_pi s3 k0 7 0 ((hq_gi s3 k0 7) + (1 : Int32))).bind fun s4 => some ((1 : Int32), s4) else some ((0 : Int32), s)
theorem f_X10_addGuard_run {xs : List Int32} {n d g : Nat} {k0 : Nat} {a1 : Int32} {a2 : Int32} {s : hq_S} {y : (Int32 × hq_S)} (hd : 0 ≤ d) (m0_ : hq_isT k0) (h : f_X10_addGuard n k0 a1 a2 s = some y) : hq_R (mm_O xs) d mc_X10_addGuard 0 [some (.ref k0), some (.int a1), some (.int a2)] [] s g (some (.int y.1)) y.2 := by
  unfold f_X10_addGuard at h
  refine hq_p 1 1 [some (.ref k0), some (.int a1), some (.int a2)] [.ref k0] (fun n h => rfl) ?_
  refine hq_gf (x := .int (hq_gi s k0 7)) rfl (hq_shT m0_) rfl rfl rfl ?_
  refine hq_p 1 5 [some (.ref k0), some (.int a1), some (.int a2)] [.int (3 : Int32), .int (hq_gi s k0 7)] (fun n h => rfl) ?_
  by_cases c1 : (hq_gi s k0 7) < (3 : Int32)
  · rw [if_pos c1] at h
    refine hq_icT rfl (hq_c_lt_T c1) ?_
    refine hq_p 1 11 [some (.ref k0), some (.int a1), some (.int a2)] [.ref k0] (fun n h => rfl) ?_
    refine hq_gf (x := .ref (k0 + 5)) rfl (hq_shT m0_) rfl rfl (hq_fldr (hq_shT_u m0_)) ?_
    refine hq_p 1 15 [some (.ref k0), some (.int a1), some (.int a2)] [.ref k0, .ref (k0 + 5)] (fun n h => rfl) ?_
    refine hq_gf (x := .int (hq_gi s k0 7)) rfl (hq_shT m0_) rfl rfl rfl ?_
    refine hq_p 1 19 [some (.ref k0), some (.int a1), some (.int a2)] [.int a1, .int (hq_gi s k0 7), .ref (k0 + 5)] (fun n h => rfl) ?_
    obtain ⟨s2, hs2, h⟩ := hq_bind h
    refine hq_iastore rfl (hq_shT_5 m0_) List.length_replicate hs2 ?_
    refine hq_p 1 21 [some (.ref k0), some (.int a1), some (.int a2)] [.ref k0] (fun n h => rfl) ?_
    refine hq_gf (x := .ref (k0 + 14)) rfl (hq_shT m0_) rfl rfl (hq_fldr (hq_shT_u m0_)) ?_
    refine hq_gf (x := .ref ((k0 + 14) + 2)) rfl (hq_shN (hq_shT_m14 m0_)) rfl rfl (hq_fldr (hq_shN_u (hq_shT_m14 m0_))) ?_
    refine hq_p 1 28 [some (.ref k0), some (.int a1), some (.int a2)] [.ref k0, .ref ((k0 + 14) + 2)] (fun n h => rfl) ?_
    refine hq_gf (x := .int (hq_gi s2 k0 7)) rfl (hq_shT m0_) rfl rfl rfl ?_
    refine hq_p 1 32 [some (.ref k0), some (.int a1), some (.int a2)] [.int a2, .int (hq_gi s2 k0 7), .ref ((k0 + 14) + 2)] (fun n h => rfl) ?_
    obtain ⟨s3, hs3, h⟩ := hq_bind h
    refine hq_iastore rfl (hq_shN_2 (hq_shT_m14 m0_)) List.length_replicate hs3 ?_
    refine hq_p 2 35 [some (.ref k0), some (.int a1), some (.int a2)] [.ref k0, .ref k0] (fun n h => rfl) ?_
    refine hq_gf (x := .int (hq_gi s3 k0 7)) rfl (hq_shT m0_) rfl rfl rfl ?_
    refine hq_p 2 40 [some (.ref k0), some (.int a1), some (.int a2)] [.int ((hq_gi s3 k0 7) + (1 : Int32)), .ref k0] (fun n h => rfl) ?_
    obtain ⟨s4, hs4, h⟩ := hq_bind h
    refine hq_pfi rfl (hq_shT m0_) rfl rfl rfl hs4 ?_
    refine hq_p 1 44 [some (.ref k0), some (.int a1), some (.int a2)] [.int (1 : Int32)] (fun n h => rfl) ?_
    have h := Option.some.inj h
    subst h
    exact ⟨1, rfl⟩
  · rw [if_neg c1] at h
    refine hq_icF rfl (hq_c_lt_F c1) ?_
    refine hq_p 1 9 [some (.ref k0), some (.int a1), some (.int a2)] [.int (0 : Int32)] (fun n h => rfl) ?_
    have h := Option.some.inj h
    subst h
    exact ⟨1, rfl⟩
