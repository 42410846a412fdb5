def f_X6_readGuard (n : Nat) (s : hq_S) : Option (Int32 × hq_S) := if hq_isT (hq_gr s 48 1) then (f_X6_passLineWord n (hq_gi s (hq_gr s 48 1) 7) (3 : Int32) s).bind fun y2 => if y2.1 = 0 then some ((0 : Int32), y2.2) else if hq_isT (hq_gr y2.2 48 1) then if hq_isT (hq_gr y2.2 48 1) then (f_X6_newName n ((hq_gr y2.2 48 1) + 5) (hq_gi y2.2 (hq_gr y2.2 48 1) 7) y2.2).bind fun y6 => (if y6.1 = (-1 : Int32) then some ((-1 : Int32), y6.2) else (f_X6_passCorner n y6.2).bind fun y9 => some (y9.1, y9.2)).bind fun z7 => if z7.1 = (-1 : Int32) then some ((0 : Int32), z7.2) else if hq_isT (hq_gr z7.2 48 1) then (f_X10_addGuard n (hq_gr z7.2 48 1) y6.1 z7.1 z7.2).bind fun y12 => if y12.1 = 0 then some ((0 : Int32), y12.2) else some ((1 : Int32), y12.2) else none else none else none else none
theorem f_X6_readGuard_run {xs : List Int32} {n d g : Nat} {s : hq_S} {y : (Int32 × hq_S)} (hd : 3 ≤ d) (h : f_X6_readGuard n s = some y) : hq_R (mm_O xs) d mc_X6_readGuard 0 [some (.ref 48), none, none] [] s g (some (.int y.1)) y.2 := by
  unfold f_X6_readGuard at h
  refine hq_p 2 2 [some (.ref 48), none, none] [.ref 48, .ref 48] (fun n h => rfl) ?_
  refine hq_gf (x := .ref (hq_gr s 48 1)) rfl rfl rfl rfl rfl ?_
  have m1 : hq_isT (hq_gr s 48 1) := hq_ifT h
  rw [if_pos m1] at h
  refine hq_gf (x := .int (hq_gi s (hq_gr s 48 1) 7)) rfl (hq_shT m1) rfl rfl rfl ?_
  refine hq_p 1 9 [some (.ref 48), none, none] [.int (3 : Int32), .int (hq_gi s (hq_gr s 48 1) 7), .ref 48] (fun n h => rfl) ?_
  obtain ⟨y2, hy2, h⟩ := hq_bind h
  refine hq_inv rfl rfl (Nat.le_trans (by decide) hd) rfl rfl (hq_rcv rfl rfl) (f_X6_passLineWord_run (Nat.le_sub_of_add_le (Nat.le_trans (by decide) hd)) hy2) rfl ?_
  by_cases c3 : y2.1 = 0
  · rw [if_pos c3] at h
    refine hq_izF rfl (hq_c_ne_F c3) ?_
    refine hq_p 1 16 [some (.ref 48), none, none] [.int (0 : Int32)] (fun n h => rfl) ?_
    have h := Option.some.inj h
    subst h
    exact ⟨1, rfl⟩
  · rw [if_neg c3] at h
    refine hq_izT rfl (hq_c_ne_T c3) ?_
    refine hq_p 2 19 [some (.ref 48), none, none] [.ref 48, .ref 48] (fun n h => rfl) ?_
    refine hq_gf (x := .ref (hq_gr y2.2 48 1)) rfl rfl rfl rfl rfl ?_
    have m4 : hq_isT (hq_gr y2.2 48 1) := hq_ifT h
    rw [if_pos m4] at h
    refine hq_gf (x := .ref ((hq_gr y2.2 48 1) + 5)) rfl (hq_shT m4) rfl rfl (hq_fldr (hq_shT_u m4)) ?_
    refine hq_p 1 26 [some (.ref 48), none, none] [.ref 48, .ref ((hq_gr y2.2 48 1) + 5), .ref 48] (fun n h => rfl) ?_
    refine hq_gf (x := .ref (hq_gr y2.2 48 1)) rfl rfl rfl rfl rfl ?_
    have m5 : hq_isT (hq_gr y2.2 48 1) := hq_ifT h
    rw [if_pos m5] at h
    refine hq_gf (x := .int (hq_gi y2.2 (hq_gr y2.2 48 1) 7)) rfl (hq_shT m5) rfl rfl rfl ?_
    obtain ⟨y6, hy6, h⟩ := hq_bind h
    refine hq_inv rfl rfl (Nat.le_trans (by decide) hd) rfl rfl (hq_rcv rfl rfl) (f_X6_newName_run (Nat.le_sub_of_add_le (Nat.le_trans (by decide) hd)) hy6) rfl ?_
    refine hq_p 2 37 [some (.ref 48), some (.int y6.1), none] [.int y6.1] (fun n h => rfl) ?_
    refine hq_icn (-1 : Int32) rfl (by decide) ?_
    obtain ⟨z7, hz7, h⟩ := hq_bind h
    suffices hT : hq_R (mm_O xs) d mc_X6_readGuard 49 [some (.ref 48), some (.int y6.1), none] [.int z7.1] z7.2 g (some (.int y.1)) y.2 from by
      clear h
      have h := hz7
      by_cases c8 : y6.1 = (-1 : Int32)
      · rw [if_pos c8] at h
        refine hq_icF rfl (hq_c_ne_F c8) ?_
        refine hq_icn (-1 : Int32) rfl (by decide) ?_
        refine hq_p 1 49 [some (.ref 48), some (.int y6.1), none] [.int (-1 : Int32)] (fun n h => rfl) ?_
        cases h
        exact hT
      · rw [if_neg c8] at h
        refine hq_icT rfl (hq_c_ne_T c8) ?_
        refine hq_p 1 46 [some (.ref 48), some (.int y6.1), none] [.ref 48] (fun n h => rfl) ?_
        obtain ⟨y9, hy9, h⟩ := hq_bind h
        refine hq_inv rfl rfl (Nat.le_trans (by decide) hd) rfl rfl (hq_rcv rfl rfl) (f_X6_passCorner_run (Nat.le_sub_of_add_le (Nat.le_trans (by decide) hd)) hy9) rfl ?_
        cases h
        exact hT
    refine hq_p 2 51 [some (.ref 48), some (.int y6.1), some (.int z7.1)] [.int z7.1] (fun n h => rfl) ?_
    refine hq_icn (-1 : Int32) rfl (by decide) ?_
    by_cases c10 : z7.1 = (-1 : Int32)
    · rw [if_pos c10] at h
      refine hq_icT rfl (hq_c_eq_T c10) ?_
      refine hq_p 1 72 [some (.ref 48), some (.int y6.1), some (.int z7.1)] [.int (0 : Int32)] (fun n h => rfl) ?_
      have h := Option.some.inj h
      subst h
      exact ⟨1, rfl⟩
    · rw [if_neg c10] at h
      refine hq_icF rfl (hq_c_eq_F c10) ?_
      refine hq_p 1 56 [some (.ref 48), some (.int y6.1), some (.int z7.1)] [.ref 48] (fun n h => rfl) ?_
      refine hq_gf (x := .ref (hq_gr z7.2 48 1)) rfl rfl rfl rfl rfl ?_
      have m11 : hq_isT (hq_gr z7.2 48 1) := hq_ifT h
      rw [if_pos m11] at h
      refine hq_p 2 61 [some (.ref 48), some (.int y6.1), some (.int z7.1)] [.int z7.1, .int y6.1, .ref (hq_gr z7.2 48 1)] (fun n h => rfl) ?_
      obtain ⟨y12, hy12, h⟩ := hq_bind h
      refine hq_inv rfl rfl (Nat.le_trans (by decide) hd) rfl rfl (hq_rcv (hq_shT m11) rfl) (f_X10_addGuard_run (Nat.le_sub_of_add_le (Nat.le_trans (by decide) hd)) m11 hy12) rfl ?_
      by_cases c13 : y12.1 = 0
      · rw [if_pos c13] at h
        refine hq_izT rfl (hq_c_eq_T c13) ?_
        refine hq_p 1 72 [some (.ref 48), some (.int y6.1), some (.int z7.1)] [.int (0 : Int32)] (fun n h => rfl) ?_
        have h := Option.some.inj h
        subst h
        exact ⟨1, rfl⟩
      · rw [if_neg c13] at h
        refine hq_izF rfl (hq_c_eq_F c13) ?_
        refine hq_p 2 72 [some (.ref 48), some (.int y6.1), some (.int z7.1)] [.int (1 : Int32)] (fun n h => rfl) ?_
        have h := Option.some.inj h
        subst h
        exact ⟨1, rfl⟩
def f_X10_addPlace (n : Nat) (k0 : Nat) (a1 : Int32) (a2 : Int32) (s : hq_S) : Option hq_S := (hq_ld s (k0 + 7) 3 a1).bind fun x1 => if x1 < (8 : Int32) then (hq_ld s (k0 + 7) 3 a1).bind fun x3 => (hq_st s (k0 + 6) 24 ((a1 * (8 : Int32)) + x3) a2).bind fun s4 => (hq_ld s4 (k0 + 7) 3 a1).bind fun x5 => (hq_st s4 (k0 + 7) 3 a1 (x5 + (1 : Int32))).bind fun s6 => some s6 else some s
theorem f_X10_addPlace_run {xs : List Int32} {n d g : Nat} {k0 : Nat} {a1 : Int32} {a2 : Int32} {s : hq_S} {y : hq_S} (hd : 0 ≤ d) (m0_ : hq_isT k0) (h : f_X10_addPlace n k0 a1 a2 s = some y) : hq_R (mm_O xs) d mc_X10_addPlace 0 [some (.ref k0), some (.int a1), some (.int a2)] [] s g none y := by
  unfold f_X10_addPlace at h
  refine hq_p 1 1 [some (.ref k0), some (.int a1), some (.int a2)] [.ref k0] (fun n h => rfl) ?_
  refine hq_gf (x := .ref (k0 + 7)) rfl (hq_shT m0_) rfl rfl (hq_fldr (hq_shT_u m0_)) ?_
  refine hq_p 1 5 [some (.ref k0), some (.int a1), some (.int a2)] [.int a1, .ref (k0 + 7)] (fun n h => rfl) ?_
  obtain ⟨x1, hx1, h⟩ := hq_bind h
  refine hq_iaload rfl (hq_shT_7 m0_) List.length_replicate hx1 ?_
  refine hq_p 1 8 [some (.ref k0), some (.int a1), some (.int a2)] [.int (8 : Int32), .int x1] (fun n h => rfl) ?_
  by_cases c2 : x1 < (8 : Int32)
  · rw [if_pos c2] at h
    refine hq_icF rfl (hq_c_ge_F c2) ?_
    refine hq_p 1 12 [some (.ref k0), some (.int a1), some (.int a2)] [.ref k0] (fun n h => rfl) ?_
    refine hq_gf (x := .ref (k0 + 6)) rfl (hq_shT m0_) rfl rfl (hq_fldr (hq_shT_u m0_)) ?_
    refine hq_p 4 20 [some (.ref k0), some (.int a1), some (.int a2)] [.ref k0, .int (a1 * (8 : Int32)), .ref (k0 + 6)] (fun n h => rfl) ?_
    refine hq_gf (x := .ref (k0 + 7)) rfl (hq_shT m0_) rfl rfl (hq_fldr (hq_shT_u m0_)) ?_
    refine hq_p 1 24 [some (.ref k0), some (.int a1), some (.int a2)] [.int a1, .ref (k0 + 7), .int (a1 * (8 : Int32)), .ref (k0 + 6)] (fun n h => rfl) ?_
    obtain ⟨x3, hx3, h⟩ := hq_bind h
    refine hq_iaload rfl (hq_shT_7 m0_) List.length_replicate hx3 ?_
    refine hq_p 2 27 [some (.ref k0), some (.int a1), some (.int a2)] [.int a2, .int ((a1 * (8 : Int32)) + x3), .ref (k0 + 6)] (fun n h => rfl) ?_
    obtain ⟨s4, hs4, h⟩ := hq_bind h
    refine hq_iastore rfl (hq_shT_6 m0_) List.length_replicate hs4 ?_
    refine hq_p 1 29 [some (.ref k0), some (.int a1), some (.int a2)] [.ref k0] (fun n h => rfl) ?_
    refine hq_gf (x := .ref (k0 + 7)) rfl (hq_shT m0_) rfl rfl (hq_fldr (hq_shT_u m0_)) ?_
    refine hq_p 2 34 [some (.ref k0), some (.int a1), some (.int a2)] [.int a1, .ref (k0 + 7), .int a1, .ref (k0 + 7)] (fun n h => rfl) ?_
    obtain ⟨x5, hx5, h⟩ := hq_bind h
    refine hq_iaload rfl (hq_shT_7 m0_) List.length_replicate hx5 ?_
    refine hq_p 2 37 [some (.ref k0), some (.int a1), some (.int a2)] [.int (x5 + (1 : Int32)), .int a1, .ref (k0 + 7)] (fun n h => rfl) ?_
    obtain ⟨s6, hs6, h⟩ := hq_bind h
    refine hq_iastore rfl (hq_shT_7 m0_) List.length_replicate hs6 ?_
    have h := Option.some.inj h
    subst h
    exact ⟨1, rfl⟩
  · rw [if_neg c2] at h
    refine hq_icT rfl (hq_c_ge_T c2) ?_
    have h := Option.some.inj h
    subst h
    exact ⟨1, rfl⟩
def f_X6_readBeat_L77_B (n : Nat) (q77 : Int32 → Int32 → hq_S → Option (Int32 × hq_S)) (a1 : Int32) (a2 : Int32) (s : hq_S) : Option (Int32 × hq_S) := if (8 : Int32) < a2 then some ((1 : Int32), s) else if (hq_gi s 49 4) = (2 : Int32) then if a2 = (8 : Int32) then (f_X6_failed n (2 : Int32) s).bind fun y18 => if mm_rfit (mm_ret mc_X6_readBeat) y18.1 = true then some (y18.1, y18.2) else none else (f_X6_passCorner n s).bind fun y14 => if y14.1 = (-1 : Int32) then some ((0 : Int32), y14.2) else if hq_isT (hq_gr y14.2 48 1) then (f_X10_addPlace n (hq_gr y14.2 48 1) a1 y14.1 y14.2).bind fun s17 => q77 a1 (a2 + (1 : Int32)) s17 else none else some ((1 : Int32), s)
def f_X6_readBeat_L77 (n : Nat) (m : Nat) : Int32 → Int32 → hq_S → Option (Int32 × hq_S) := Nat.rec (fun _ _ _ => none) (fun _ q => f_X6_readBeat_L77_B n q) m
theorem f_X6_readBeat_L77_Brun {xs : List Int32} {n d g : Nat} {a1 : Int32} {a2 : Int32} {o3 : Option Value} {q77 : Int32 → Int32 → hq_S → Option (Int32 × hq_S)} {s : hq_S} {y : (Int32 × hq_S)} (hd : 3 ≤ d) (e77 : ∀ (a1 : Int32) (a2 : Int32) (o3 : Option Value) (s : hq_S), q77 a1 a2 s = some y → hq_R (mm_O xs) d mc_X6_readBeat 77 [some (.ref 48), some (.int a1), some (.int a2), o3] [] s g (some (.int y.1)) y.2) (h : f_X6_readBeat_L77_B n q77 a1 a2 s = some y) : hq_R (mm_O xs) d mc_X6_readBeat 77 [some (.ref 48), some (.int a1), some (.int a2), o3] [] s g (some (.int y.1)) y.2 := by
  unfold f_X6_readBeat_L77_B at h
  refine hq_p 2 80 [some (.ref 48), some (.int a1), some (.int a2), o3] [.int (8 : Int32), .int a2] (fun n h => rfl) ?_
  by_cases c11 : (8 : Int32) < a2
  · rw [if_pos c11] at h
    refine hq_icT rfl (hq_c_gt_T c11) ?_
    refine hq_p 1 134 [some (.ref 48), some (.int a1), some (.int a2), o3] [.int (1 : Int32)] (fun n h => rfl) ?_
    have h := Option.some.inj h
    subst h
    exact ⟨1, rfl⟩
  · rw [if_neg c11] at h
    refine hq_icF rfl (hq_c_gt_F c11) ?_
    refine hq_p 1 84 [some (.ref 48), some (.int a1), some (.int a2), o3] [.ref 48] (fun n h => rfl) ?_
    refine hq_gf (x := .ref 49) rfl rfl rfl rfl rfl ?_
    refine hq_gf (x := .int (hq_gi s 49 4)) rfl rfl rfl rfl rfl ?_
    refine hq_p 1 91 [some (.ref 48), some (.int a1), some (.int a2), o3] [.int (2 : Int32), .int (hq_gi s 49 4)] (fun n h => rfl) ?_
    by_cases c12 : (hq_gi s 49 4) = (2 : Int32)
    · rw [if_pos c12] at h
      refine hq_icF rfl (hq_c_ne_F c12) ?_
      refine hq_p 2 97 [some (.ref 48), some (.int a1), some (.int a2), o3] [.int (8 : Int32), .int a2] (fun n h => rfl) ?_
      by_cases c13 : a2 = (8 : Int32)
      · rw [if_pos c13] at h
        refine hq_icF rfl (hq_c_ne_F c13) ?_
        refine hq_p 2 102 [some (.ref 48), some (.int a1), some (.int a2), o3] [.int (2 : Int32), .ref 48] (fun n h => rfl) ?_
        obtain ⟨y18, hy18, h⟩ := hq_bind h
        refine hq_inv rfl rfl (Nat.le_trans (by decide) hd) rfl rfl (hq_rcv rfl rfl) (f_X6_failed_run (Nat.le_sub_of_add_le (Nat.le_trans (by decide) hd)) hy18) rfl ?_
        have hr : mm_rfit (mm_ret mc_X6_readBeat) y18.1 = true := hq_ifT h
        rw [if_pos hr] at h
        have h := Option.some.inj h
        subst h
        exact hq_iret rfl hr
      · rw [if_neg c13] at h
        refine hq_icT rfl (hq_c_ne_T c13) ?_
        refine hq_p 1 107 [some (.ref 48), some (.int a1), some (.int a2), o3] [.ref 48] (fun n h => rfl) ?_
        obtain ⟨y14, hy14, h⟩ := hq_bind h
        refine hq_inv rfl rfl (Nat.le_trans (by decide) hd) rfl rfl (hq_rcv rfl rfl) (f_X6_passCorner_run (Nat.le_sub_of_add_le (Nat.le_trans (by decide) hd)) hy14) rfl ?_
        refine hq_p 2 112 [some (.ref 48), some (.int a1), some (.int a2), some (.int y14.1)] [.int y14.1] (fun n h => rfl) ?_
        refine hq_icn (-1 : Int32) rfl (by decide) ?_
        by_cases c15 : y14.1 = (-1 : Int32)
        · rw [if_pos c15] at h
          refine hq_icF rfl (hq_c_ne_F c15) ?_
          refine hq_p 1 117 [some (.ref 48), some (.int a1), some (.int a2), some (.int y14.1)] [.int (0 : Int32)] (fun n h => rfl) ?_
          have h := Option.some.inj h
          subst h
          exact ⟨1, rfl⟩
        · rw [if_neg c15] at h
          refine hq_icT rfl (hq_c_ne_T c15) ?_
          refine hq_p 1 119 [some (.ref 48), some (.int a1), some (.int a2), some (.int y14.1)] [.ref 48] (fun n h => rfl) ?_
          refine hq_gf (x := .ref (hq_gr y14.2 48 1)) rfl rfl rfl rfl rfl ?_
          have m16 : hq_isT (hq_gr y14.2 48 1) := hq_ifT h
          rw [if_pos m16] at h
          refine hq_p 2 124 [some (.ref 48), some (.int a1), some (.int a2), some (.int y14.1)] [.int y14.1, .int a1, .ref (hq_gr y14.2 48 1)] (fun n h => rfl) ?_
          obtain ⟨s17, hs17, h⟩ := hq_bind h
          refine hq_inv rfl rfl (Nat.le_trans (by decide) hd) rfl rfl (hq_rcv (hq_shT m16) rfl) (f_X10_addPlace_run (Nat.le_sub_of_add_le (Nat.le_trans (by decide) hd)) m16 hs17) rfl ?_
          refine hq_p 2 77 [some (.ref 48), some (.int a1), some (.int (a2 + (1 : Int32))), some (.int y14.1)] [] (fun n h => rfl) ?_
          exact e77 a1 (a2 + (1 : Int32)) _ s17 h
    · rw [if_neg c12] at h
      refine hq_icT rfl (hq_c_ne_T c12) ?_
      refine hq_p 1 134 [some (.ref 48), some (.int a1), some (.int a2), o3] [.int (1 : Int32)] (fun n h => rfl) ?_
      have h := Option.some.inj h
      subst h
      exact ⟨1, rfl⟩
theorem f_X6_readBeat_L77_run {xs : List Int32} {n m d g : Nat} {a1 : Int32} {a2 : Int32} {o3 : Option Value} {s : hq_S} {y : (Int32 × hq_S)} (hd : 3 ≤ d) (h : f_X6_readBeat_L77 n m a1 a2 s = some y) : hq_R (mm_O xs) d mc_X6_readBeat 77 [some (.ref 48), some (.int a1), some (.int a2), o3] [] s g (some (.int y.1)) y.2 := by
  induction m generalizing a1 a2 o3 s with
  | zero => cases h
  | succ m ih => exact f_X6_readBeat_L77_Brun (n := n) hd (fun a1 a2 o3 s h => ih h) h
def f_X6_readBeat (n : Nat) (s : hq_S) : Option (Int32 × hq_S) := (f_X9_advance n s).bind fun s1 => if hq_isT (hq_gr s1 48 1) then if hq_isT (hq_gr s1 48 1) then (f_X6_toldOne n ((hq_gr s1 48 1) + 5) (hq_gi s1 (hq_gr s1 48 1) 7) s1).bind fun y4 => if y4.1 = (-1 : Int32) then some ((0 : Int32), y4.2) else if hq_isT (hq_gr y4.2 48 1) then (hq_ld y4.2 ((hq_gr y4.2 48 1) + 7) 3 y4.1).bind fun x7 => if 0 < x7 then (f_X6_failed n (3 : Int32) y4.2).bind fun y20 => if mm_rfit (mm_ret mc_X6_readBeat) y20.1 = true then some (y20.1, y20.2) else none else (f_X9_advance n y4.2).bind fun s9 => if (hq_gi s9 49 4) = (2 : Int32) then f_X6_readBeat_L77 n n y4.1 (0 : Int32) s9 else (f_X6_failed n (1 : Int32) s9).bind fun y19 => if mm_rfit (mm_ret mc_X6_readBeat) y19.1 = true then some (y19.1, y19.2) else none else none else none else none
theorem f_X6_readBeat_run {xs : List Int32} {n d g : Nat} {s : hq_S} {y : (Int32 × hq_S)} (hd : 3 ≤ d) (h : f_X6_readBeat n s = some y) : hq_R (mm_O xs) d mc_X6_readBeat 0 [some (.ref 48), none, none, none] [] s g (some (.int y.1)) y.2 := by
  unfold f_X6_readBeat at h
  refine hq_p 1 1 [some (.ref 48), none, none, none] [.ref 48] (fun n h => rfl) ?_
  refine hq_gf (x := .ref 49) rfl rfl rfl rfl rfl ?_
  obtain ⟨s1, hs1, h⟩ := hq_bind h
  refine hq_inv rfl rfl (Nat.le_trans (by decide) hd) rfl rfl (hq_rcv rfl rfl) (f_X9_advance_run (Nat.le_sub_of_add_le (Nat.le_trans (by decide) hd)) hs1) rfl ?_
  refine hq_p 2 9 [some (.ref 48), none, none, none] [.ref 48, .ref 48] (fun n h => rfl) ?_
  refine hq_gf (x := .ref (hq_gr s1 48 1)) rfl rfl rfl rfl rfl ?_
  have m2 : hq_isT (hq_gr s1 48 1) := hq_ifT h
  rw [if_pos m2] at h
  refine hq_gf (x := .ref ((hq_gr s1 48 1) + 5)) rfl (hq_shT m2) rfl rfl (hq_fldr (hq_shT_u m2)) ?_
  refine hq_p 1 16 [some (.ref 48), none, none, none] [.ref 48, .ref ((hq_gr s1 48 1) + 5), .ref 48] (fun n h => rfl) ?_
  refine hq_gf (x := .ref (hq_gr s1 48 1)) rfl rfl rfl rfl rfl ?_
  have m3 : hq_isT (hq_gr s1 48 1) := hq_ifT h
  rw [if_pos m3] at h
  refine hq_gf (x := .int (hq_gi s1 (hq_gr s1 48 1) 7)) rfl (hq_shT m3) rfl rfl rfl ?_
  obtain ⟨y4, hy4, h⟩ := hq_bind h
  refine hq_inv rfl rfl (Nat.le_trans (by decide) hd) rfl rfl (hq_rcv rfl rfl) (f_X6_toldOne_run (Nat.le_sub_of_add_le (Nat.le_trans (by decide) hd)) hy4) rfl ?_
  refine hq_p 2 27 [some (.ref 48), some (.int y4.1), none, none] [.int y4.1] (fun n h => rfl) ?_
  refine hq_icn (-1 : Int32) rfl (by decide) ?_
  by_cases c5 : y4.1 = (-1 : Int32)
  · rw [if_pos c5] at h
    refine hq_icF rfl (hq_c_ne_F c5) ?_
    refine hq_p 1 32 [some (.ref 48), some (.int y4.1), none, none] [.int (0 : Int32)] (fun n h => rfl) ?_
    have h := Option.some.inj h
    subst h
    exact ⟨1, rfl⟩
  · rw [if_neg c5] at h
    refine hq_icT rfl (hq_c_ne_T c5) ?_
    refine hq_p 1 34 [some (.ref 48), some (.int y4.1), none, none] [.ref 48] (fun n h => rfl) ?_
    refine hq_gf (x := .ref (hq_gr y4.2 48 1)) rfl rfl rfl rfl rfl ?_
    have m6 : hq_isT (hq_gr y4.2 48 1) := hq_ifT h
    rw [if_pos m6] at h
    refine hq_gf (x := .ref ((hq_gr y4.2 48 1) + 7)) rfl (hq_shT m6) rfl rfl (hq_fldr (hq_shT_u m6)) ?_
    refine hq_p 1 41 [some (.ref 48), some (.int y4.1), none, none] [.int y4.1, .ref ((hq_gr y4.2 48 1) + 7)] (fun n h => rfl) ?_
    obtain ⟨x7, hx7, h⟩ := hq_bind h
    refine hq_iaload rfl (hq_shT_7 m6) List.length_replicate hx7 ?_
    by_cases c8 : 0 < x7
    · rw [if_pos c8] at h
      refine hq_izF rfl (hq_c_le_F c8) ?_
      refine hq_p 2 47 [some (.ref 48), some (.int y4.1), none, none] [.int (3 : Int32), .ref 48] (fun n h => rfl) ?_
      obtain ⟨y20, hy20, h⟩ := hq_bind h
      refine hq_inv rfl rfl (Nat.le_trans (by decide) hd) rfl rfl (hq_rcv rfl rfl) (f_X6_failed_run (Nat.le_sub_of_add_le (Nat.le_trans (by decide) hd)) hy20) rfl ?_
      have hr : mm_rfit (mm_ret mc_X6_readBeat) y20.1 = true := hq_ifT h
      rw [if_pos hr] at h
      have h := Option.some.inj h
      subst h
      exact hq_iret rfl hr
    · rw [if_neg c8] at h
      refine hq_izT rfl (hq_c_le_T c8) ?_
      refine hq_p 1 52 [some (.ref 48), some (.int y4.1), none, none] [.ref 48] (fun n h => rfl) ?_
      refine hq_gf (x := .ref 49) rfl rfl rfl rfl rfl ?_
      obtain ⟨s9, hs9, h⟩ := hq_bind h
      refine hq_inv rfl rfl (Nat.le_trans (by decide) hd) rfl rfl (hq_rcv rfl rfl) (f_X9_advance_run (Nat.le_sub_of_add_le (Nat.le_trans (by decide) hd)) hs9) rfl ?_
      refine hq_p 1 59 [some (.ref 48), some (.int y4.1), none, none] [.ref 48] (fun n h => rfl) ?_
      refine hq_gf (x := .ref 49) rfl rfl rfl rfl rfl ?_
      refine hq_gf (x := .int (hq_gi s9 49 4)) rfl rfl rfl rfl rfl ?_
      refine hq_p 1 66 [some (.ref 48), some (.int y4.1), none, none] [.int (2 : Int32), .int (hq_gi s9 49 4)] (fun n h => rfl) ?_
      by_cases c10 : (hq_gi s9 49 4) = (2 : Int32)
      · rw [if_pos c10] at h
        refine hq_icT rfl (hq_c_eq_T c10) ?_
        refine hq_p 2 77 [some (.ref 48), some (.int y4.1), some (.int (0 : Int32)), none] [] (fun n h => rfl) ?_
        exact f_X6_readBeat_L77_run hd h
      · rw [if_neg c10] at h
        refine hq_icF rfl (hq_c_eq_F c10) ?_
        refine hq_p 2 71 [some (.ref 48), some (.int y4.1), none, none] [.int (1 : Int32), .ref 48] (fun n h => rfl) ?_
        obtain ⟨y19, hy19, h⟩ := hq_bind h
        refine hq_inv rfl rfl (Nat.le_trans (by decide) hd) rfl rfl (hq_rcv rfl rfl) (f_X6_failed_run (Nat.le_sub_of_add_le (Nat.le_trans (by decide) hd)) hy19) rfl ?_
        have hr : mm_rfit (mm_ret mc_X6_readBeat) y19.1 = true := hq_ifT h
        rw [if_pos hr] at h
        have h := Option.some.inj h
        subst h
        exact hq_iret rfl hr
def f_X10_addThief (n : Nat) (k0 : Nat) (a1 : Int32) (a2 : Int32) (a3 : Int32) (s : hq_S) : Option (Int32 × hq_S) := if (hq_gi s k0 11) < (4 : Int32) then (hq_st s (k0 + 8) 4 (hq_gi s k0 11) a1).bind fun s2 => (hq_st s2 ((k0 + 14) + 5) 4 (hq_gi s2 k0 11) a2).bind fun s3 => (hq_st s3 ((k0 + 14) + 6) 4 (hq_gi s3 k0 11) a3).bind fun s4 => (hq_pi s4 k0 11 0 ((hq_gi s4 k0 11) + (1 : Int32))).bind fun s5 => some ((1 : Int32), s5) else some ((0 : Int32), s)
theorem f_X10_addThief_run {xs : List Int32} {n d g : Nat} {k0 : Nat} {a1 : Int32} {a2 : Int32} {a3 : Int32} {s : hq_S} {y : (Int32 × hq_S)} (hd : 0 ≤ d) (m0_ : hq_isT k0) (h : f_X10_addThief n k0 a1 a2 a3 s = some y) : hq_R (mm_O xs) d mc_X10_addThief 0 [some (.ref k0), some (.int a1), some (.int a2), some (.int a3)] [] s g (some (.int y.1)) y.2 := by
  unfold f_X10_addThief at h
  refine hq_p 1 1 [some (.ref k0), some (.int a1), some (.int a2), some (.int a3)] [.ref k0] (fun n h => rfl) ?_
  refine hq_gf (x := .int (hq_gi s k0 11)) rfl (hq_shT m0_) rfl rfl rfl ?_
  refine hq_p 1 5 [some (.ref k0), some (.int a1), some (.int a2), some (.int a3)] [.int (4 : Int32), .int (hq_gi s k0 11)] (fun n h => rfl) ?_
  by_cases c1 : (hq_gi s k0 11) < (4 : Int32)
  · rw [if_pos c1] at h
    refine hq_icT rfl (hq_c_lt_T c1) ?_
    refine hq_p 1 11 [some (.ref k0), some (.int a1), some (.int a2), some (.int a3)] [.ref k0] (fun n h => rfl) ?_
    refine hq_gf (x := .ref (k0 + 8)) rfl (hq_shT m0_) rfl rfl (hq_fldr (hq_shT_u m0_)) ?_
    refine hq_p 1 15 [some (.ref k0), some (.int a1), some (.int a2), some (.int a3)] [.ref k0, .ref (k0 + 8)] (fun n h => rfl) ?_
    refine hq_gf (x := .int (hq_gi s k0 11)) rfl (hq_shT m0_) rfl rfl rfl ?_
    refine hq_p 1 19 [some (.ref k0), some (.int a1), some (.int a2), some (.int a3)] [.int a1, .int (hq_gi s k0 11), .ref (k0 + 8)] (fun n h => rfl) ?_
    obtain ⟨s2, hs2, h⟩ := hq_bind h
    refine hq_iastore rfl (hq_shT_8 m0_) List.length_replicate hs2 ?_
    refine hq_p 1 21 [some (.ref k0), some (.int a1), some (.int a2), some (.int a3)] [.ref k0] (fun n h => rfl) ?_
    refine hq_gf (x := .ref (k0 + 14)) rfl (hq_shT m0_) rfl rfl (hq_fldr (hq_shT_u m0_)) ?_
    refine hq_gf (x := .ref ((k0 + 14) + 5)) rfl (hq_shN (hq_shT_m14 m0_)) rfl rfl (hq_fldr (hq_shN_u (hq_shT_m14 m0_))) ?_
    refine hq_p 1 28 [some (.ref k0), some (.int a1), some (.int a2), some (.int a3)] [.ref k0, .ref ((k0 + 14) + 5)] (fun n h => rfl) ?_
    refine hq_gf (x := .int (hq_gi s2 k0 11)) rfl (hq_shT m0_) rfl rfl rfl ?_
    refine hq_p 1 32 [some (.ref k0), some (.int a1), some (.int a2), some (.int a3)] [.int a2, .int (hq_gi s2 k0 11), .ref ((k0 + 14) + 5)] (fun n h => rfl) ?_
    obtain ⟨s3, hs3, h⟩ := hq_bind h
    refine hq_iastore rfl (hq_shN_5 (hq_shT_m14 m0_)) List.length_replicate hs3 ?_
    refine hq_p 1 34 [some (.ref k0), some (.int a1), some (.int a2), some (.int a3)] [.ref k0] (fun n h => rfl) ?_
    refine hq_gf (x := .ref (k0 + 14)) rfl (hq_shT m0_) rfl rfl (hq_fldr (hq_shT_u m0_)) ?_
    refine hq_gf (x := .ref ((k0 + 14) + 6)) rfl (hq_shN (hq_shT_m14 m0_)) rfl rfl (hq_fldr (hq_shN_u (hq_shT_m14 m0_))) ?_
    refine hq_p 1 41 [some (.ref k0), some (.int a1), some (.int a2), some (.int a3)] [.ref k0, .ref ((k0 + 14) + 6)] (fun n h => rfl) ?_
    refine hq_gf (x := .int (hq_gi s3 k0 11)) rfl (hq_shT m0_) rfl rfl rfl ?_
    refine hq_p 1 45 [some (.ref k0), some (.int a1), some (.int a2), some (.int a3)] [.int a3, .int (hq_gi s3 k0 11), .ref ((k0 + 14) + 6)] (fun n h => rfl) ?_
    obtain ⟨s4, hs4, h⟩ := hq_bind h
    refine hq_iastore rfl (hq_shN_6 (hq_shT_m14 m0_)) List.length_replicate hs4 ?_
    refine hq_p 2 48 [some (.ref k0), some (.int a1), some (.int a2), some (.int a3)] [.ref k0, .ref k0] (fun n h => rfl) ?_
    refine hq_gf (x := .int (hq_gi s4 k0 11)) rfl (hq_shT m0_) rfl rfl rfl ?_
    refine hq_p 2 53 [some (.ref k0), some (.int a1), some (.int a2), some (.int a3)] [.int ((hq_gi s4 k0 11) + (1 : Int32)), .ref k0] (fun n h => rfl) ?_
    obtain ⟨s5, hs5, h⟩ := hq_bind h
    refine hq_pfi rfl (hq_shT m0_) rfl rfl rfl hs5 ?_
    refine hq_p 1 57 [some (.ref k0), some (.int a1), some (.int a2), some (.int a3)] [.int (1 : Int32)] (fun n h => rfl) ?_
    have h := Option.some.inj h
    subst h
    exact ⟨1, rfl⟩
  · rw [if_neg c1] at h
    refine hq_icF rfl (hq_c_lt_F c1) ?_
    refine hq_p 1 9 [some (.ref k0), some (.int a1), some (.int a2), some (.int a3)] [.int (0 : Int32)] (fun n h => rfl) ?_
    have h := Option.some.inj h
    subst h
    exact ⟨1, rfl⟩
def f_X6_readThief (n : Nat) (s : hq_S) : Option (Int32 × hq_S) := if hq_isT (hq_gr s 48 1) then (f_X6_passLineWord n (hq_gi s (hq_gr s 48 1) 11) (4 : Int32) s).bind fun y2 => if y2.1 = 0 then some ((0 : Int32), y2.2) else if hq_isT (hq_gr y2.2 48 1) then if hq_isT (hq_gr y2.2 48 1) then (f_X6_newName n ((hq_gr y2.2 48 1) + 8) (hq_gi y2.2 (hq_gr y2.2 48 1) 11) y2.2).bind fun y6 => (if y6.1 = (-1 : Int32) then some ((-1 : Int32), y6.2) else (f_X6_passCorner n y6.2).bind fun y9 => some (y9.1, y9.2)).bind fun z7 => (if z7.1 = (-1 : Int32) then some ((-1 : Int32), z7.2) else (f_X6_passNumber n (9 : Int32) z7.2).bind fun y12 => some (y12.1, y12.2)).bind fun z10 => if z10.1 = (-1 : Int32) then some ((0 : Int32), z10.2) else if hq_isT (hq_gr z10.2 48 1) then (f_X10_addThief n (hq_gr z10.2 48 1) y6.1 z7.1 z10.1 z10.2).bind fun y15 => if y15.1 = 0 then some ((0 : Int32), y15.2) else some ((1 : Int32), y15.2) else none else none else none else none
theorem f_X6_readThief_run {xs : List Int32} {n d g : Nat} {s : hq_S} {y : (Int32 × hq_S)} (hd : 3 ≤ d) (h : f_X6_readThief n s = some y) : hq_R (mm_O xs) d mc_X6_readThief 0 [some (.ref 48), none, none, none] [] s g (some (.int y.1)) y.2 := by
  unfold f_X6_readThief at h
  refine hq_p 2 2 [some (.ref 48), none, none, none] [.ref 48, .ref 48] (fun n h => rfl) ?_
  refine hq_gf (x := .ref (hq_gr s 48 1)) rfl rfl rfl rfl rfl ?_
  have m1 : hq_isT (hq_gr s 48 1) := hq_ifT h
  rw [if_pos m1] at h
  refine hq_gf (x := .int (hq_gi s (hq_gr s 48 1) 11)) rfl (hq_shT m1) rfl rfl rfl ?_
  refine hq_p 1 9 [some (.ref 48), none, none, none] [.int (4 : Int32), .int (hq_gi s (hq_gr s 48 1) 11), .ref 48] (fun n h => rfl) ?_
  obtain ⟨y2, hy2, h⟩ := hq_bind h
  refine hq_inv rfl rfl (Nat.le_trans (by decide) hd) rfl rfl (hq_rcv rfl rfl) (f_X6_passLineWord_run (Nat.le_sub_of_add_le (Nat.le_trans (by decide) hd)) hy2) rfl ?_
  by_cases c3 : y2.1 = 0
  · rw [if_pos c3] at h
    refine hq_izF rfl (hq_c_ne_F c3) ?_
    refine hq_p 1 16 [some (.ref 48), none, none, none] [.int (0 : Int32)] (fun n h => rfl) ?_
    have h := Option.some.inj h
    subst h
    exact ⟨1, rfl⟩
  · rw [if_neg c3] at h
    refine hq_izT rfl (hq_c_ne_T c3) ?_
    refine hq_p 2 19 [some (.ref 48), none, none, none] [.ref 48, .ref 48] (fun n h => rfl) ?_
    refine hq_gf (x := .ref (hq_gr y2.2 48 1)) rfl rfl rfl rfl rfl ?_
    have m4 : hq_isT (hq_gr y2.2 48 1) := hq_ifT h
    rw [if_pos m4] at h
    refine hq_gf (x := .ref ((hq_gr y2.2 48 1) + 8)) rfl (hq_shT m4) rfl rfl (hq_fldr (hq_shT_u m4)) ?_
    refine hq_p 1 26 [some (.ref 48), none, none, none] [.ref 48, .ref ((hq_gr y2.2 48 1) + 8), .ref 48] (fun n h => rfl) ?_
    refine hq_gf (x := .ref (hq_gr y2.2 48 1)) rfl rfl rfl rfl rfl ?_
    have m5 : hq_isT (hq_gr y2.2 48 1) := hq_ifT h
    rw [if_pos m5] at h
    refine hq_gf (x := .int (hq_gi y2.2 (hq_gr y2.2 48 1) 11)) rfl (hq_shT m5) rfl rfl rfl ?_
    obtain ⟨y6, hy6, h⟩ := hq_bind h
    refine hq_inv rfl rfl (Nat.le_trans (by decide) hd) rfl rfl (hq_rcv rfl rfl) (f_X6_newName_run (Nat.le_sub_of_add_le (Nat.le_trans (by decide) hd)) hy6) rfl ?_
    refine hq_p 2 37 [some (.ref 48), some (.int y6.1), none, none] [.int y6.1] (fun n h => rfl) ?_
    refine hq_icn (-1 : Int32) rfl (by decide) ?_
    obtain ⟨z7, hz7, h⟩ := hq_bind h
    suffices hT : hq_R (mm_O xs) d mc_X6_readThief 49 [some (.ref 48), some (.int y6.1), none, none] [.int z7.1] z7.2 g (some (.int y.1)) y.2 from by
      clear h
      have h := hz7
      by_cases c8 : y6.1 = (-1 : Int32)
      · rw [if_pos c8] at h
        refine hq_icF rfl (hq_c_ne_F c8) ?_
        refine hq_icn (-1 : Int32) rfl (by decide) ?_
        refine hq_p 1 49 [some (.ref 48), some (.int y6.1), none, none] [.int (-1 : Int32)] (fun n h => rfl) ?_
        cases h
        exact hT
      · rw [if_neg c8] at h
        refine hq_icT rfl (hq_c_ne_T c8) ?_
        refine hq_p 1 46 [some (.ref 48), some (.int y6.1), none, none] [.ref 48] (fun n h => rfl) ?_
        obtain ⟨y9, hy9, h⟩ := hq_bind h
        refine hq_inv rfl rfl (Nat.le_trans (by decide) hd) rfl rfl (hq_rcv rfl rfl) (f_X6_passCorner_run (Nat.le_sub_of_add_le (Nat.le_trans (by decide) hd)) hy9) rfl ?_
        cases h
        exact hT
    refine hq_p 2 51 [some (.ref 48), some (.int y6.1), some (.int z7.1), none] [.int z7.1] (fun n h => rfl) ?_
    refine hq_icn (-1 : Int32) rfl (by decide) ?_
    obtain ⟨z10, hz10, h⟩ := hq_bind h
    suffices hT : hq_R (mm_O xs) d mc_X6_readThief 65 [some (.ref 48), some (.int y6.1), some (.int z7.1), none] [.int z10.1] z10.2 g (some (.int y.1)) y.2 from by
      clear h
      have h := hz10
      by_cases c11 : z7.1 = (-1 : Int32)
      · rw [if_pos c11] at h
        refine hq_icF rfl (hq_c_ne_F c11) ?_
        refine hq_icn (-1 : Int32) rfl (by decide) ?_
        refine hq_p 1 65 [some (.ref 48), some (.int y6.1), some (.int z7.1), none] [.int (-1 : Int32)] (fun n h => rfl) ?_
        cases h
        exact hT
      · rw [if_neg c11] at h
        refine hq_icT rfl (hq_c_ne_T c11) ?_
        refine hq_p 2 62 [some (.ref 48), some (.int y6.1), some (.int z7.1), none] [.int (9 : Int32), .ref 48] (fun n h => rfl) ?_
        obtain ⟨y12, hy12, h⟩ := hq_bind h
        refine hq_inv rfl rfl (Nat.le_trans (by decide) hd) rfl rfl (hq_rcv rfl rfl) (f_X6_passNumber_run (Nat.le_sub_of_add_le (Nat.le_trans (by decide) hd)) hy12) rfl ?_
        cases h
        exact hT
    refine hq_p 2 67 [some (.ref 48), some (.int y6.1), some (.int z7.1), some (.int z10.1)] [.int z10.1] (fun n h => rfl) ?_
    refine hq_icn (-1 : Int32) rfl (by decide) ?_
    by_cases c13 : z10.1 = (-1 : Int32)
    · rw [if_pos c13] at h
      refine hq_icT rfl (hq_c_eq_T c13) ?_
      refine hq_p 1 89 [some (.ref 48), some (.int y6.1), some (.int z7.1), some (.int z10.1)] [.int (0 : Int32)] (fun n h => rfl) ?_
      have h := Option.some.inj h
      subst h
      exact ⟨1, rfl⟩
    · rw [if_neg c13] at h
      refine hq_icF rfl (hq_c_eq_F c13) ?_
      refine hq_p 1 72 [some (.ref 48), some (.int y6.1), some (.int z7.1), some (.int z10.1)] [.ref 48] (fun n h => rfl) ?_
      refine hq_gf (x := .ref (hq_gr z10.2 48 1)) rfl rfl rfl rfl rfl ?_
      have m14 : hq_isT (hq_gr z10.2 48 1) := hq_ifT h
      rw [if_pos m14] at h
      refine hq_p 3 78 [some (.ref 48), some (.int y6.1), some (.int z7.1), some (.int z10.1)] [.int z10.1, .int z7.1, .int y6.1, .ref (hq_gr z10.2 48 1)] (fun n h => rfl) ?_
      obtain ⟨y15, hy15, h⟩ := hq_bind h
      refine hq_inv rfl rfl (Nat.le_trans (by decide) hd) rfl rfl (hq_rcv (hq_shT m14) rfl) (f_X10_addThief_run (Nat.le_sub_of_add_le (Nat.le_trans (by decide) hd)) m14 hy15) rfl ?_
      by_cases c16 : y15.1 = 0
      · rw [if_pos c16] at h
        refine hq_izT rfl (hq_c_eq_T c16) ?_
        refine hq_p 1 89 [some (.ref 48), some (.int y6.1), some (.int z7.1), some (.int z10.1)] [.int (0 : Int32)] (fun n h => rfl) ?_
        have h := Option.some.inj h
        subst h
        exact ⟨1, rfl⟩
      · rw [if_neg c16] at h
        refine hq_izF rfl (hq_c_eq_F c16) ?_
        refine hq_p 2 89 [some (.ref 48), some (.int y6.1), some (.int z7.1), some (.int z10.1)] [.int (1 : Int32)] (fun n h => rfl) ?_
        have h := Option.some.inj h
        subst h
        exact ⟨1, rfl⟩
def f_X6_readGrip (n : Nat) (s : hq_S) : Option (Int32 × hq_S) := if hq_isT (hq_gr s 48 1) then if (hq_gi s (hq_gr s 48 1) 14) = 0 then (f_X9_advance n s).bind fun s3 => (f_X6_passNumber n (100 : Int32) s3).bind fun y4 => if y4.1 = (-1 : Int32) then some ((0 : Int32), y4.2) else if hq_isT (hq_gr y4.2 48 1) then (hq_pi y4.2 (hq_gr y4.2 48 1) 13 0 y4.1).bind fun s7 => if hq_isT (hq_gr s7 48 1) then (hq_pi s7 (hq_gr s7 48 1) 14 1 (1 : Int32)).bind fun s9 => some ((1 : Int32), s9) else none else none else (f_X6_failed n (3 : Int32) s).bind fun y10 => if mm_rfit (mm_ret mc_X6_readGrip) y10.1 = true then some (y10.1, y10.2) else none else none
theorem f_X6_readGrip_run {xs : List Int32} {n d g : Nat} {s : hq_S} {y : (Int32 × hq_S)} (hd : 3 ≤ d) (h : f_X6_readGrip n s = some y) : hq_R (mm_O xs) d mc_X6_readGrip 0 [some (.ref 48), none] [] s g (some (.int y.1)) y.2 := by
  unfold f_X6_readGrip at h
  refine hq_p 1 1 [some (.ref 48), none] [.ref 48] (fun n h => rfl) ?_
  refine hq_gf (x := .ref (hq_gr s 48 1)) rfl rfl rfl rfl rfl ?_
  have m1 : hq_isT (hq_gr s 48 1) := hq_ifT h
  rw [if_pos m1] at h
  refine hq_gf (x := .int (hq_gi s (hq_gr s 48 1) 14)) rfl (hq_shT m1) rfl rfl rfl ?_
  by_cases c2 : (hq_gi s (hq_gr s 48 1) 14) = 0
  · rw [if_pos c2] at h
    refine hq_izT rfl (hq_c_eq_T c2) ?_
    refine hq_p 1 17 [some (.ref 48), none] [.ref 48] (fun n h => rfl) ?_
    refine hq_gf (x := .ref 49) rfl rfl rfl rfl rfl ?_
    obtain ⟨s3, hs3, h⟩ := hq_bind h
    refine hq_inv rfl rfl (Nat.le_trans (by decide) hd) rfl rfl (hq_rcv rfl rfl) (f_X9_advance_run (Nat.le_sub_of_add_le (Nat.le_trans (by decide) hd)) hs3) rfl ?_
    refine hq_p 1 24 [some (.ref 48), none] [.ref 48] (fun n h => rfl) ?_
    refine hq_bip (100 : Int32) rfl (by decide) ?_
    obtain ⟨y4, hy4, h⟩ := hq_bind h
    refine hq_inv rfl rfl (Nat.le_trans (by decide) hd) rfl rfl (hq_rcv rfl rfl) (f_X6_passNumber_run (Nat.le_sub_of_add_le (Nat.le_trans (by decide) hd)) hy4) rfl ?_
    refine hq_p 2 31 [some (.ref 48), some (.int y4.1)] [.int y4.1] (fun n h => rfl) ?_
    refine hq_icn (-1 : Int32) rfl (by decide) ?_
    by_cases c5 : y4.1 = (-1 : Int32)
    · rw [if_pos c5] at h
      refine hq_icF rfl (hq_c_ne_F c5) ?_
      refine hq_p 1 36 [some (.ref 48), some (.int y4.1)] [.int (0 : Int32)] (fun n h => rfl) ?_
      have h := Option.some.inj h
      subst h
      exact ⟨1, rfl⟩
    · rw [if_neg c5] at h
      refine hq_icT rfl (hq_c_ne_T c5) ?_
      refine hq_p 1 38 [some (.ref 48), some (.int y4.1)] [.ref 48] (fun n h => rfl) ?_
      refine hq_gf (x := .ref (hq_gr y4.2 48 1)) rfl rfl rfl rfl rfl ?_
      have m6 : hq_isT (hq_gr y4.2 48 1) := hq_ifT h
      rw [if_pos m6] at h
      refine hq_p 1 42 [some (.ref 48), some (.int y4.1)] [.int y4.1, .ref (hq_gr y4.2 48 1)] (fun n h => rfl) ?_
      obtain ⟨s7, hs7, h⟩ := hq_bind h
      refine hq_pfi rfl (hq_shT m6) rfl rfl rfl hs7 ?_
      refine hq_p 1 46 [some (.ref 48), some (.int y4.1)] [.ref 48] (fun n h => rfl) ?_
      refine hq_gf (x := .ref (hq_gr s7 48 1)) rfl rfl rfl rfl rfl ?_
      have m8 : hq_isT (hq_gr s7 48 1) := hq_ifT h
      rw [if_pos m8] at h
      refine hq_p 1 50 [some (.ref 48), some (.int y4.1)] [.int (1 : Int32), .ref (hq_gr s7 48 1)] (fun n h => rfl) ?_
      obtain ⟨s9, hs9, h⟩ := hq_bind h
      refine hq_pfi rfl (hq_shT m8) rfl rfl rfl hs9 ?_
      refine hq_p 1 54 [some (.ref 48), some (.int y4.1)] [.int (1 : Int32)] (fun n h => rfl) ?_
      have h := Option.some.inj h
      subst h
      exact ⟨1, rfl⟩
  · rw [if_neg c2] at h
    refine hq_izF rfl (hq_c_eq_F c2) ?_
    refine hq_p 2 12 [some (.ref 48), none] [.int (3 : Int32), .ref 48] (fun n h => rfl) ?_
    obtain ⟨y10, hy10, h⟩ := hq_bind h
    refine hq_inv rfl rfl (Nat.le_trans (by decide) hd) rfl rfl (hq_rcv rfl rfl) (f_X6_failed_run (Nat.le_sub_of_add_le (Nat.le_trans (by decide) hd)) hy10) rfl ?_
    have hr : mm_rfit (mm_ret mc_X6_readGrip) y10.1 = true := hq_ifT h
    rw [if_pos hr] at h
    have h := Option.some.inj h
    subst h
    exact hq_iret rfl hr
def f_X6_readSeed (n : Nat) (s : hq_S) : Option (Int32 × hq_S) := if hq_isT (hq_gr s 48 1) then if (hq_gi s (hq_gr s 48 1) 15) = 0 then (f_X9_advance n s).bind fun s3 => (f_X6_passNumber n (99999 : Int32) s3).bind fun y4 => if y4.1 = (-1 : Int32) then some ((0 : Int32), y4.2) else if hq_isT (hq_gr y4.2 48 1) then (hq_pj y4.2 ((hq_gr y4.2 48 1) + 14) 1 y4.1.toInt64).bind fun s7 => if hq_isT (hq_gr s7 48 1) then (hq_pi s7 (hq_gr s7 48 1) 15 1 (1 : Int32)).bind fun s9 => some ((1 : Int32), s9) else none else none else (f_X6_failed n (3 : Int32) s).bind fun y10 => if mm_rfit (mm_ret mc_X6_readSeed) y10.1 = true then some (y10.1, y10.2) else none else none
theorem f_X6_readSeed_run {xs : List Int32} {n d g : Nat} {s : hq_S} {y : (Int32 × hq_S)} (hd : 3 ≤ d) (h : f_X6_readSeed n s = some y) : hq_R (mm_O xs) d mc_X6_readSeed 0 [some (.ref 48), none] [] s g (some (.int y.1)) y.2 := by
  unfold f_X6_readSeed at h
  refine hq_p 1 1 [some (.ref 48), none] [.ref 48] (fun n h => rfl) ?_
  refine hq_gf (x := .ref (hq_gr s 48 1)) rfl rfl rfl rfl rfl ?_
  have m1 : hq_isT (hq_gr s 48 1) := hq_ifT h
  rw [if_pos m1] at h
  refine hq_gf (x := .int (hq_gi s (hq_gr s 48 1) 15)) rfl (hq_shT m1) rfl rfl rfl ?_
  by_cases c2 : (hq_gi s (hq_gr s 48 1) 15) = 0
  · rw [if_pos c2] at h
    refine hq_izT rfl (hq_c_eq_T c2) ?_
    refine hq_p 1 17 [some (.ref 48), none] [.ref 48] (fun n h => rfl) ?_
    refine hq_gf (x := .ref 49) rfl rfl rfl rfl rfl ?_
    obtain ⟨s3, hs3, h⟩ := hq_bind h
    refine hq_inv rfl rfl (Nat.le_trans (by decide) hd) rfl rfl (hq_rcv rfl rfl) (f_X9_advance_run (Nat.le_sub_of_add_le (Nat.le_trans (by decide) hd)) hs3) rfl ?_
    refine hq_p 1 24 [some (.ref 48), none] [.ref 48] (fun n h => rfl) ?_
    refine hq_lcn (99999 : Int32) rfl (by decide) ?_
    obtain ⟨y4, hy4, h⟩ := hq_bind h
    refine hq_inv rfl rfl (Nat.le_trans (by decide) hd) rfl rfl (hq_rcv rfl rfl) (f_X6_passNumber_run (Nat.le_sub_of_add_le (Nat.le_trans (by decide) hd)) hy4) rfl ?_
    refine hq_p 2 31 [some (.ref 48), some (.int y4.1)] [.int y4.1] (fun n h => rfl) ?_
    refine hq_icn (-1 : Int32) rfl (by decide) ?_
    by_cases c5 : y4.1 = (-1 : Int32)
    · rw [if_pos c5] at h
      refine hq_icF rfl (hq_c_ne_F c5) ?_
      refine hq_p 1 36 [some (.ref 48), some (.int y4.1)] [.int (0 : Int32)] (fun n h => rfl) ?_
      have h := Option.some.inj h
      subst h
      exact ⟨1, rfl⟩
    · rw [if_neg c5] at h
      refine hq_icT rfl (hq_c_ne_T c5) ?_
      refine hq_p 1 38 [some (.ref 48), some (.int y4.1)] [.ref 48] (fun n h => rfl) ?_
      refine hq_gf (x := .ref (hq_gr y4.2 48 1)) rfl rfl rfl rfl rfl ?_
      have m6 : hq_isT (hq_gr y4.2 48 1) := hq_ifT h
      rw [if_pos m6] at h
      refine hq_gf (x := .ref ((hq_gr y4.2 48 1) + 14)) rfl (hq_shT m6) rfl rfl (hq_fldr (hq_shT_u m6)) ?_
      refine hq_p 2 46 [some (.ref 48), some (.int y4.1)] [.long y4.1.toInt64, .ref ((hq_gr y4.2 48 1) + 14)] (fun n h => rfl) ?_
      obtain ⟨s7, hs7, h⟩ := hq_bind h
      refine hq_pfj rfl (hq_shN (hq_shT_m14 m6)) rfl rfl rfl hs7 ?_
      refine hq_p 1 50 [some (.ref 48), some (.int y4.1)] [.ref 48] (fun n h => rfl) ?_
      refine hq_gf (x := .ref (hq_gr s7 48 1)) rfl rfl rfl rfl rfl ?_
      have m8 : hq_isT (hq_gr s7 48 1) := hq_ifT h
      rw [if_pos m8] at h
      refine hq_p 1 54 [some (.ref 48), some (.int y4.1)] [.int (1 : Int32), .ref (hq_gr s7 48 1)] (fun n h => rfl) ?_
      obtain ⟨s9, hs9, h⟩ := hq_bind h
      refine hq_pfi rfl (hq_shT m8) rfl rfl rfl hs9 ?_
      refine hq_p 1 58 [some (.ref 48), some (.int y4.1)] [.int (1 : Int32)] (fun n h => rfl) ?_
      have h := Option.some.inj h
      subst h
      exact ⟨1, rfl⟩
  · rw [if_neg c2] at h
    refine hq_izF rfl (hq_c_eq_F c2) ?_
    refine hq_p 2 12 [some (.ref 48), none] [.int (3 : Int32), .ref 48] (fun n h => rfl) ?_
    obtain ⟨y10, hy10, h⟩ := hq_bind h
    refine hq_inv rfl rfl (Nat.le_trans (by decide) hd) rfl rfl (hq_rcv rfl rfl) (f_X6_failed_run (Nat.le_sub_of_add_le (Nat.le_trans (by decide) hd)) hy10) rfl ?_
    have hr : mm_rfit (mm_ret mc_X6_readSeed) y10.1 = true := hq_ifT h
    rw [if_pos hr] at h
    have h := Option.some.inj h
    subst h
    exact hq_iret rfl hr
def f_X9_isThisSign (n : Nat) (a1 : Int32) (s : hq_S) : Option (Int32 × hq_S) := if (hq_gi s 49 4) = (5 : Int32) then if (hq_gi s 49 5) = a1 then some ((1 : Int32), s) else some ((0 : Int32), s) else some ((0 : Int32), s)
theorem f_X9_isThisSign_run {xs : List Int32} {n d g : Nat} {a1 : Int32} {s : hq_S} {y : (Int32 × hq_S)} (hd : 0 ≤ d) (h : f_X9_isThisSign n a1 s = some y) : hq_R (mm_O xs) d mc_X9_isThisSign 0 [some (.ref 49), some (.int a1)] [] s g (some (.int y.1)) y.2 := by
  unfold f_X9_isThisSign at h
  refine hq_p 1 1 [some (.ref 49), some (.int a1)] [.ref 49] (fun n h => rfl) ?_
  refine hq_gf (x := .int (hq_gi s 49 4)) rfl rfl rfl rfl rfl ?_
  refine hq_p 1 5 [some (.ref 49), some (.int a1)] [.int (5 : Int32), .int (hq_gi s 49 4)] (fun n h => rfl) ?_
  by_cases c1 : (hq_gi s 49 4) = (5 : Int32)
  · rw [if_pos c1] at h
    refine hq_icF rfl (hq_c_ne_F c1) ?_
    refine hq_p 1 9 [some (.ref 49), some (.int a1)] [.ref 49] (fun n h => rfl) ?_
    refine hq_gf (x := .int (hq_gi s 49 5)) rfl rfl rfl rfl rfl ?_
    refine hq_p 1 13 [some (.ref 49), some (.int a1)] [.int a1, .int (hq_gi s 49 5)] (fun n h => rfl) ?_
    by_cases c2 : (hq_gi s 49 5) = a1
    · rw [if_pos c2] at h
      refine hq_icF rfl (hq_c_ne_F c2) ?_
      refine hq_p 2 21 [some (.ref 49), some (.int a1)] [.int (1 : Int32)] (fun n h => rfl) ?_
      have h := Option.some.inj h
      subst h
      exact ⟨1, rfl⟩
    · rw [if_neg c2] at h
      refine hq_icT rfl (hq_c_ne_T c2) ?_
      refine hq_p 1 21 [some (.ref 49), some (.int a1)] [.int (0 : Int32)] (fun n h => rfl) ?_
      have h := Option.some.inj h
      subst h
      exact ⟨1, rfl⟩
  · rw [if_neg c1] at h
    refine hq_icT rfl (hq_c_ne_T c1) ?_
    refine hq_p 1 21 [some (.ref 49), some (.int a1)] [.int (0 : Int32)] (fun n h => rfl) ?_
    have h := Option.some.inj h
    subst h
    exact ⟨1, rfl⟩
def f_X6_hang (n : Nat) (a1 : Int32) (s : hq_S) : Option hq_S := if (hq_gi s 48 3) < (72 : Int32) then (hq_st s 75 72 (hq_gi s 48 3) a1).bind fun s2 => (hq_pi s2 48 3 0 ((hq_gi s2 48 3) + (1 : Int32))).bind fun s3 => some s3 else some s
theorem f_X6_hang_run {xs : List Int32} {n d g : Nat} {a1 : Int32} {s : hq_S} {y : hq_S} (hd : 0 ≤ d) (h : f_X6_hang n a1 s = some y) : hq_R (mm_O xs) d mc_X6_hang 0 [some (.ref 48), some (.int a1)] [] s g none y := by
  unfold f_X6_hang at h
  refine hq_p 1 1 [some (.ref 48), some (.int a1)] [.ref 48] (fun n h => rfl) ?_
  refine hq_gf (x := .int (hq_gi s 48 3)) rfl rfl rfl rfl rfl ?_
  refine hq_p 1 5 [some (.ref 48), some (.int a1)] [.ref 48, .int (hq_gi s 48 3)] (fun n h => rfl) ?_
  refine hq_gf (x := .ref 75) rfl rfl rfl rfl rfl ?_
  refine hq_alen rfl rfl rfl List.length_replicate (x := (72 : Int32)) rfl ?_
  by_cases c1 : (hq_gi s 48 3) < (72 : Int32)
  · rw [if_pos c1] at h
    refine hq_icF rfl (hq_c_ge_F c1) ?_
    refine hq_p 1 13 [some (.ref 48), some (.int a1)] [.ref 48] (fun n h => rfl) ?_
    refine hq_gf (x := .ref 75) rfl rfl rfl rfl rfl ?_
    refine hq_p 1 17 [some (.ref 48), some (.int a1)] [.ref 48, .ref 75] (fun n h => rfl) ?_
    refine hq_gf (x := .int (hq_gi s 48 3)) rfl rfl rfl rfl rfl ?_
    refine hq_p 1 21 [some (.ref 48), some (.int a1)] [.int a1, .int (hq_gi s 48 3), .ref 75] (fun n h => rfl) ?_
    obtain ⟨s2, hs2, h⟩ := hq_bind h
    refine hq_iastore rfl rfl List.length_replicate hs2 ?_
    refine hq_p 2 24 [some (.ref 48), some (.int a1)] [.ref 48, .ref 48] (fun n h => rfl) ?_
    refine hq_gf (x := .int (hq_gi s2 48 3)) rfl rfl rfl rfl rfl ?_
    refine hq_p 2 29 [some (.ref 48), some (.int a1)] [.int ((hq_gi s2 48 3) + (1 : Int32)), .ref 48] (fun n h => rfl) ?_
    obtain ⟨s3, hs3, h⟩ := hq_bind h
    refine hq_pfi rfl rfl rfl rfl rfl hs3 ?_
    have h := Option.some.inj h
    subst h
    exact ⟨1, rfl⟩
  · rw [if_neg c1] at h
    refine hq_icT rfl (hq_c_ge_T c1) ?_
    have h := Option.some.inj h
    subst h
    exact ⟨1, rfl⟩
def f_X9_isKey (n : Nat) (a1 : Int32) (s : hq_S) : Option (Int32 × hq_S) := if (hq_gi s 49 4) = (3 : Int32) then if (hq_gi s 49 5) = a1 then some ((1 : Int32), s) else some ((0 : Int32), s) else some ((0 : Int32), s)
theorem f_X9_isKey_run {xs : List Int32} {n d g : Nat} {a1 : Int32} {s : hq_S} {y : (Int32 × hq_S)} (hd : 0 ≤ d) (h : f_X9_isKey n a1 s = some y) : hq_R (mm_O xs) d mc_X9_isKey 0 [some (.ref 49), some (.int a1)] [] s g (some (.int y.1)) y.2 := by
  unfold f_X9_isKey at h
  refine hq_p 1 1 [some (.ref 49), some (.int a1)] [.ref 49] (fun n h => rfl) ?_
  refine hq_gf (x := .int (hq_gi s 49 4)) rfl rfl rfl rfl rfl ?_
  refine hq_p 1 5 [some (.ref 49), some (.int a1)] [.int (3 : Int32), .int (hq_gi s 49 4)] (fun n h => rfl) ?_
  by_cases c1 : (hq_gi s 49 4) = (3 : Int32)
  · rw [if_pos c1] at h
    refine hq_icF rfl (hq_c_ne_F c1) ?_
    refine hq_p 1 9 [some (.ref 49), some (.int a1)] [.ref 49] (fun n h => rfl) ?_
    refine hq_gf (x := .int (hq_gi s 49 5)) rfl rfl rfl rfl rfl ?_
    refine hq_p 1 13 [some (.ref 49), some (.int a1)] [.int a1, .int (hq_gi s 49 5)] (fun n h => rfl) ?_
    by_cases c2 : (hq_gi s 49 5) = a1
    · rw [if_pos c2] at h
      refine hq_icF rfl (hq_c_ne_F c2) ?_
      refine hq_p 2 21 [some (.ref 49), some (.int a1)] [.int (1 : Int32)] (fun n h => rfl) ?_
      have h := Option.some.inj h
      subst h
      exact ⟨1, rfl⟩
    · rw [if_neg c2] at h
      refine hq_icT rfl (hq_c_ne_T c2) ?_
      refine hq_p 1 21 [some (.ref 49), some (.int a1)] [.int (0 : Int32)] (fun n h => rfl) ?_
      have h := Option.some.inj h
      subst h
      exact ⟨1, rfl⟩
  · rw [if_neg c1] at h
    refine hq_icT rfl (hq_c_ne_T c1) ?_
    refine hq_p 1 21 [some (.ref 49), some (.int a1)] [.int (0 : Int32)] (fun n h => rfl) ?_
    have h := Option.some.inj h
    subst h
    exact ⟨1, rfl⟩
def f_X6_passKnot (n : Nat) (s : hq_S) : Option (Int32 × hq_S) := if hq_isT (hq_gr s 48 1) then (f_X4_tellKnot n ((hq_gr s 48 1) + 9) s).bind fun y2 => if y2.1 = 0 then (f_X6_failed n (2 : Int32) y2.2).bind fun y5 => if mm_rfit (mm_ret mc_X6_passKnot) y5.1 = true then some (y5.1, y5.2) else none else (f_X9_advance n y2.2).bind fun s4 => some ((1 : Int32), s4) else none
theorem f_X6_passKnot_run {xs : List Int32} {n d g : Nat} {s : hq_S} {y : (Int32 × hq_S)} (hd : 2 ≤ d) (h : f_X6_passKnot n s = some y) : hq_R (mm_O xs) d mc_X6_passKnot 0 [some (.ref 48)] [] s g (some (.int y.1)) y.2 := by
  unfold f_X6_passKnot at h
  refine hq_p 1 1 [some (.ref 48)] [.ref 48] (fun n h => rfl) ?_
  refine hq_gf (x := .ref (hq_gr s 48 1)) rfl rfl rfl rfl rfl ?_
  have m1 : hq_isT (hq_gr s 48 1) := hq_ifT h
  rw [if_pos m1] at h
  refine hq_gf (x := .ref ((hq_gr s 48 1) + 9)) rfl (hq_shT m1) rfl rfl (hq_fldr (hq_shT_u m1)) ?_
  obtain ⟨y2, hy2, h⟩ := hq_bind h
  refine hq_inv rfl rfl (Nat.le_trans (by decide) hd) rfl rfl (hq_rcv (hq_shL (hq_shT_m9 m1)) rfl) (f_X4_tellKnot_run (Nat.le_sub_of_add_le (Nat.le_trans (by decide) hd)) (hq_shT_m9 m1) hy2) rfl ?_
  by_cases c3 : y2.1 = 0
  · rw [if_pos c3] at h
    refine hq_izF rfl (hq_c_ne_F c3) ?_
    refine hq_p 2 15 [some (.ref 48)] [.int (2 : Int32), .ref 48] (fun n h => rfl) ?_
    obtain ⟨y5, hy5, h⟩ := hq_bind h
    refine hq_inv rfl rfl (Nat.le_trans (by decide) hd) rfl rfl (hq_rcv rfl rfl) (f_X6_failed_run (Nat.le_sub_of_add_le (Nat.le_trans (by decide) hd)) hy5) rfl ?_
    have hr : mm_rfit (mm_ret mc_X6_passKnot) y5.1 = true := hq_ifT h
    rw [if_pos hr] at h
    have h := Option.some.inj h
    subst h
    exact hq_iret rfl hr
  · rw [if_neg c3] at h
    refine hq_izT rfl (hq_c_ne_T c3) ?_
    refine hq_p 1 20 [some (.ref 48)] [.ref 48] (fun n h => rfl) ?_
    refine hq_gf (x := .ref 49) rfl rfl rfl rfl rfl ?_
    obtain ⟨s4, hs4, h⟩ := hq_bind h
    refine hq_inv rfl rfl (Nat.le_trans (by decide) hd) rfl rfl (hq_rcv rfl rfl) (f_X9_advance_run (Nat.le_sub_of_add_le (Nat.le_trans (by decide) hd)) hs4) rfl ?_
    refine hq_p 1 27 [some (.ref 48)] [.int (1 : Int32)] (fun n h => rfl) ?_
    have h := Option.some.inj h
    subst h
    exact ⟨1, rfl⟩
def f_X9_isName (n : Nat) (s : hq_S) : Option (Int32 × hq_S) := if (hq_gi s 49 4) = (3 : Int32) then if (hq_gi s 49 5) < (12 : Int32) then some ((0 : Int32), s) else if (hq_gi s 49 5) < (19 : Int32) then some ((1 : Int32), s) else some ((0 : Int32), s) else some ((0 : Int32), s)
theorem f_X9_isName_run {xs : List Int32} {n d g : Nat} {s : hq_S} {y : (Int32 × hq_S)} (hd : 0 ≤ d) (h : f_X9_isName n s = some y) : hq_R (mm_O xs) d mc_X9_isName 0 [some (.ref 49)] [] s g (some (.int y.1)) y.2 := by
  unfold f_X9_isName at h
  refine hq_p 1 1 [some (.ref 49)] [.ref 49] (fun n h => rfl) ?_
  refine hq_gf (x := .int (hq_gi s 49 4)) rfl rfl rfl rfl rfl ?_
  refine hq_p 1 5 [some (.ref 49)] [.int (3 : Int32), .int (hq_gi s 49 4)] (fun n h => rfl) ?_
  by_cases c1 : (hq_gi s 49 4) = (3 : Int32)
  · rw [if_pos c1] at h
    refine hq_icF rfl (hq_c_ne_F c1) ?_
    refine hq_p 1 9 [some (.ref 49)] [.ref 49] (fun n h => rfl) ?_
    refine hq_gf (x := .int (hq_gi s 49 5)) rfl rfl rfl rfl rfl ?_
    refine hq_p 1 14 [some (.ref 49)] [.int (12 : Int32), .int (hq_gi s 49 5)] (fun n h => rfl) ?_
    by_cases c2 : (hq_gi s 49 5) < (12 : Int32)
    · rw [if_pos c2] at h
      refine hq_icT rfl (hq_c_lt_T c2) ?_
      refine hq_p 1 31 [some (.ref 49)] [.int (0 : Int32)] (fun n h => rfl) ?_
      have h := Option.some.inj h
      subst h
      exact ⟨1, rfl⟩
    · rw [if_neg c2] at h
      refine hq_icF rfl (hq_c_lt_F c2) ?_
      refine hq_p 1 18 [some (.ref 49)] [.ref 49] (fun n h => rfl) ?_
      refine hq_gf (x := .int (hq_gi s 49 5)) rfl rfl rfl rfl rfl ?_
      refine hq_bip (19 : Int32) rfl (by decide) ?_
      by_cases c3 : (hq_gi s 49 5) < (19 : Int32)
      · rw [if_pos c3] at h
        refine hq_icF rfl (hq_c_ge_F c3) ?_
        refine hq_p 2 31 [some (.ref 49)] [.int (1 : Int32)] (fun n h => rfl) ?_
        have h := Option.some.inj h
        subst h
        exact ⟨1, rfl⟩
      · rw [if_neg c3] at h
        refine hq_icT rfl (hq_c_ge_T c3) ?_
        refine hq_p 1 31 [some (.ref 49)] [.int (0 : Int32)] (fun n h => rfl) ?_
        have h := Option.some.inj h
        subst h
        exact ⟨1, rfl⟩
  · rw [if_neg c1] at h
    refine hq_icT rfl (hq_c_ne_T c1) ?_
    refine hq_p 1 31 [some (.ref 49)] [.int (0 : Int32)] (fun n h => rfl) ?_
    have h := Option.some.inj h
    subst h
    exact ⟨1, rfl⟩
def f_X6_readSide_J147 (n : Nat) (a1 : Int32) (s : hq_S) : Option (Int32 × hq_S) := if hq_isT (hq_gr s 48 1) then (if a1 = 0 then some (((10000 : Int32) + (hq_gi s 49 5)) - (12 : Int32)) else some (hq_gi s 49 5)).bind fun z9 => (f_X4_put n ((hq_gr s 48 1) + 9) z9 s).bind fun s11 => (hq_pi s11 48 5 1 (0 : Int32)).bind fun s12 => (f_X6_passKnot n s12).bind fun y13 => if mm_rfit (mm_ret mc_X6_readSide) y13.1 = true then some (y13.1, y13.2) else none else none
theorem f_X6_readSide_J147_run {xs : List Int32} {n d g : Nat} {a1 : Int32} {s : hq_S} {y : (Int32 × hq_S)} (hd : 3 ≤ d) (h : f_X6_readSide_J147 n a1 s = some y) : hq_R (mm_O xs) d mc_X6_readSide 147 [some (.ref 48), some (.int a1)] [] s g (some (.int y.1)) y.2 := by
  unfold f_X6_readSide_J147 at h
  refine hq_p 1 148 [some (.ref 48), some (.int a1)] [.ref 48] (fun n h => rfl) ?_
  refine hq_gf (x := .ref (hq_gr s 48 1)) rfl rfl rfl rfl rfl ?_
  have m8 : hq_isT (hq_gr s 48 1) := hq_ifT h
  rw [if_pos m8] at h
  refine hq_gf (x := .ref ((hq_gr s 48 1) + 9)) rfl (hq_shT m8) rfl rfl (hq_fldr (hq_shT_u m8)) ?_
  refine hq_p 1 155 [some (.ref 48), some (.int a1)] [.int a1, .ref ((hq_gr s 48 1) + 9)] (fun n h => rfl) ?_
  obtain ⟨z9, hz9, h⟩ := hq_bind h
  suffices hT : hq_R (mm_O xs) d mc_X6_readSide 182 [some (.ref 48), some (.int a1)] [.int z9, .ref ((hq_gr s 48 1) + 9)] s g (some (.int y.1)) y.2 from by
    clear h
    have h := hz9
    by_cases c10 : a1 = 0
    · rw [if_pos c10] at h
      refine hq_izT rfl (hq_c_eq_T c10) ?_
      refine hq_sip (10000 : Int32) rfl (by decide) ?_
      refine hq_p 1 172 [some (.ref 48), some (.int a1)] [.ref 48, .int (10000 : Int32), .ref ((hq_gr s 48 1) + 9)] (fun n h => rfl) ?_
      refine hq_gf (x := .ref 49) rfl rfl rfl rfl rfl ?_
      refine hq_gf (x := .int (hq_gi s 49 5)) rfl rfl rfl rfl rfl ?_
      refine hq_p 3 182 [some (.ref 48), some (.int a1)] [.int (((10000 : Int32) + (hq_gi s 49 5)) - (12 : Int32)), .ref ((hq_gr s 48 1) + 9)] (fun n h => rfl) ?_
      cases h
      exact hT
    · rw [if_neg c10] at h
      refine hq_izF rfl (hq_c_eq_F c10) ?_
      refine hq_p 1 159 [some (.ref 48), some (.int a1)] [.ref 48, .ref ((hq_gr s 48 1) + 9)] (fun n h => rfl) ?_
      refine hq_gf (x := .ref 49) rfl rfl rfl rfl rfl ?_
      refine hq_gf (x := .int (hq_gi s 49 5)) rfl rfl rfl rfl rfl ?_
      refine hq_p 1 182 [some (.ref 48), some (.int a1)] [.int (hq_gi s 49 5), .ref ((hq_gr s 48 1) + 9)] (fun n h => rfl) ?_
      cases h
      exact hT
  obtain ⟨s11, hs11, h⟩ := hq_bind h
  refine hq_inv rfl rfl (Nat.le_trans (by decide) hd) rfl rfl (hq_rcv (hq_shL (hq_shT_m9 m8)) rfl) (f_X4_put_run (Nat.le_sub_of_add_le (Nat.le_trans (by decide) hd)) (hq_shT_m9 m8) hs11) rfl ?_
  refine hq_p 2 187 [some (.ref 48), some (.int a1)] [.int (0 : Int32), .ref 48] (fun n h => rfl) ?_
  obtain ⟨s12, hs12, h⟩ := hq_bind h
  refine hq_pfi rfl rfl rfl rfl rfl hs12 ?_
  refine hq_p 1 191 [some (.ref 48), some (.int a1)] [.ref 48] (fun n h => rfl) ?_
  obtain ⟨y13, hy13, h⟩ := hq_bind h
  refine hq_inv rfl rfl (Nat.le_trans (by decide) hd) rfl rfl (hq_rcv rfl rfl) (f_X6_passKnot_run (Nat.le_sub_of_add_le (Nat.le_trans (by decide) hd)) hy13) rfl ?_
  have hr : mm_rfit (mm_ret mc_X6_readSide) y13.1 = true := hq_ifT h
  rw [if_pos hr] at h
  have h := Option.some.inj h
  subst h
  exact hq_iret rfl hr
def f_X6_readSide_J124 (n : Nat) (a1 : Int32) (s : hq_S) : Option (Int32 × hq_S) := if a1 = 0 then f_X6_readSide_J147 n a1 s else if (9999 : Int32) < (hq_gi s 49 5) then (f_X6_failed n (2 : Int32) s).bind fun y15 => if mm_rfit (mm_ret mc_X6_readSide) y15.1 = true then some (y15.1, y15.2) else none else f_X6_readSide_J147 n a1 s
theorem f_X6_readSide_J124_run {xs : List Int32} {n d g : Nat} {a1 : Int32} {s : hq_S} {y : (Int32 × hq_S)} (hd : 3 ≤ d) (h : f_X6_readSide_J124 n a1 s = some y) : hq_R (mm_O xs) d mc_X6_readSide 124 [some (.ref 48), some (.int a1)] [] s g (some (.int y.1)) y.2 := by
  unfold f_X6_readSide_J124 at h
  refine hq_p 1 125 [some (.ref 48), some (.int a1)] [.int a1] (fun n h => rfl) ?_
  by_cases c7 : a1 = 0
  · rw [if_pos c7] at h
    refine hq_izT rfl (hq_c_eq_T c7) ?_
    exact f_X6_readSide_J147_run hd h
  · rw [if_neg c7] at h
    refine hq_izF rfl (hq_c_eq_F c7) ?_
    refine hq_p 1 129 [some (.ref 48), some (.int a1)] [.ref 48] (fun n h => rfl) ?_
    refine hq_gf (x := .ref 49) rfl rfl rfl rfl rfl ?_
    refine hq_gf (x := .int (hq_gi s 49 5)) rfl rfl rfl rfl rfl ?_
    refine hq_sip (9999 : Int32) rfl (by decide) ?_
    by_cases c14 : (9999 : Int32) < (hq_gi s 49 5)
    · rw [if_pos c14] at h
      refine hq_icF rfl (hq_c_le_F c14) ?_
      refine hq_p 2 143 [some (.ref 48), some (.int a1)] [.int (2 : Int32), .ref 48] (fun n h => rfl) ?_
      obtain ⟨y15, hy15, h⟩ := hq_bind h
      refine hq_inv rfl rfl (Nat.le_trans (by decide) hd) rfl rfl (hq_rcv rfl rfl) (f_X6_failed_run (Nat.le_sub_of_add_le (Nat.le_trans (by decide) hd)) hy15) rfl ?_
      have hr : mm_rfit (mm_ret mc_X6_readSide) y15.1 = true := hq_ifT h
      rw [if_pos hr] at h
      have h := Option.some.inj h
      subst h
      exact hq_iret rfl hr
    · rw [if_neg c14] at h
      refine hq_icT rfl (hq_c_le_T c14) ?_
      exact f_X6_readSide_J147_run hd h
def f_X6_readSide_J87 (n : Nat) (s : hq_S) : Option (Int32 × hq_S) := (if (hq_gi s 49 4) = (4 : Int32) then some (1 : Int32) else some (0 : Int32)).bind fun z4 => if z4 = 0 then (f_X9_isName n s).bind fun y16 => if y16.1 = 0 then (f_X6_failed n (1 : Int32) y16.2).bind fun y18 => if mm_rfit (mm_ret mc_X6_readSide) y18.1 = true then some (y18.1, y18.2) else none else f_X6_readSide_J124 n z4 y16.2 else f_X6_readSide_J124 n z4 s
theorem f_X6_readSide_J87_run {xs : List Int32} {n d g : Nat} {s : hq_S} {y : (Int32 × hq_S)} (hd : 3 ≤ d) (h : f_X6_readSide_J87 n s = some y) : hq_R (mm_O xs) d mc_X6_readSide 87 [some (.ref 48), none] [] s g (some (.int y.1)) y.2 := by
  unfold f_X6_readSide_J87 at h
  refine hq_p 1 88 [some (.ref 48), none] [.ref 48] (fun n h => rfl) ?_
  refine hq_gf (x := .ref 49) rfl rfl rfl rfl rfl ?_
  refine hq_gf (x := .int (hq_gi s 49 4)) rfl rfl rfl rfl rfl ?_
  refine hq_p 1 95 [some (.ref 48), none] [.int (4 : Int32), .int (hq_gi s 49 4)] (fun n h => rfl) ?_
  obtain ⟨z4, hz4, h⟩ := hq_bind h
  suffices hT : hq_R (mm_O xs) d mc_X6_readSide 103 [some (.ref 48), none] [.int z4] s g (some (.int y.1)) y.2 from by
    clear h
    have h := hz4
    by_cases c5 : (hq_gi s 49 4) = (4 : Int32)
    · rw [if_pos c5] at h
      refine hq_icF rfl (hq_c_ne_F c5) ?_
      refine hq_p 2 103 [some (.ref 48), none] [.int (1 : Int32)] (fun n h => rfl) ?_
      cases h
      exact hT
    · rw [if_neg c5] at h
      refine hq_icT rfl (hq_c_ne_T c5) ?_
      refine hq_p 1 103 [some (.ref 48), none] [.int (0 : Int32)] (fun n h => rfl) ?_
      cases h
      exact hT
  refine hq_p 2 105 [some (.ref 48), some (.int z4)] [.int z4] (fun n h => rfl) ?_
  by_cases c6 : z4 = 0
  · rw [if_pos c6] at h
    refine hq_izF rfl (hq_c_ne_F c6) ?_
    refine hq_p 1 109 [some (.ref 48), some (.int z4)] [.ref 48] (fun n h => rfl) ?_
    refine hq_gf (x := .ref 49) rfl rfl rfl rfl rfl ?_
    obtain ⟨y16, hy16, h⟩ := hq_bind h
    refine hq_inv rfl rfl (Nat.le_trans (by decide) hd) rfl rfl (hq_rcv rfl rfl) (f_X9_isName_run (Nat.le_sub_of_add_le (Nat.le_trans (by decide) hd)) hy16) rfl ?_
    by_cases c17 : y16.1 = 0
    · rw [if_pos c17] at h
      refine hq_izF rfl (hq_c_ne_F c17) ?_
      refine hq_p 2 120 [some (.ref 48), some (.int z4)] [.int (1 : Int32), .ref 48] (fun n h => rfl) ?_
      obtain ⟨y18, hy18, h⟩ := hq_bind h
      refine hq_inv rfl rfl (Nat.le_trans (by decide) hd) rfl rfl (hq_rcv rfl rfl) (f_X6_failed_run (Nat.le_sub_of_add_le (Nat.le_trans (by decide) hd)) hy18) rfl ?_
      have hr : mm_rfit (mm_ret mc_X6_readSide) y18.1 = true := hq_ifT h
      rw [if_pos hr] at h
      have h := Option.some.inj h
      subst h
      exact hq_iret rfl hr
    · rw [if_neg c17] at h
      refine hq_izT rfl (hq_c_ne_T c17) ?_
      exact f_X6_readSide_J124_run hd h
  · rw [if_neg c6] at h
    refine hq_izT rfl (hq_c_ne_T c6) ?_
    exact f_X6_readSide_J124_run hd h
def f_X6_readSide (n : Nat) (s : hq_S) : Option (Int32 × hq_S) := (f_X9_isThisSign n (40 : Int32) s).bind fun y1 => if y1.1 = 0 then if (hq_gi y1.2 48 6) = 0 then f_X6_readSide_J87 n y1.2 else (f_X9_isKey n (21 : Int32) y1.2).bind fun y19 => if y19.1 = 0 then f_X6_readSide_J87 n y19.2 else (f_X6_hang n (21 : Int32) y19.2).bind fun s21 => (f_X6_passKnot n s21).bind fun y22 => if mm_rfit (mm_ret mc_X6_readSide) y22.1 = true then some (y22.1, y22.2) else none else if (hq_gi y1.2 48 4) < (8 : Int32) then (hq_pi y1.2 48 4 0 ((hq_gi y1.2 48 4) + (1 : Int32))).bind fun s24 => (hq_pi s24 48 6 1 (1 : Int32)).bind fun s25 => (f_X6_hang n (40 : Int32) s25).bind fun s26 => (f_X9_advance n s26).bind fun s27 => some ((1 : Int32), s27) else (f_X6_failed n (2 : Int32) y1.2).bind fun y28 => if mm_rfit (mm_ret mc_X6_readSide) y28.1 = true then some (y28.1, y28.2) else none
theorem f_X6_readSide_run {xs : List Int32} {n d g : Nat} {s : hq_S} {y : (Int32 × hq_S)} (hd : 3 ≤ d) (h : f_X6_readSide n s = some y) : hq_R (mm_O xs) d mc_X6_readSide 0 [some (.ref 48), none] [] s g (some (.int y.1)) y.2 := by
  unfold f_X6_readSide at h
  refine hq_p 1 1 [some (.ref 48), none] [.ref 48] (fun n h => rfl) ?_
  refine hq_gf (x := .ref 49) rfl rfl rfl rfl rfl ?_
  refine hq_bip (40 : Int32) rfl (by decide) ?_
  obtain ⟨y1, hy1, h⟩ := hq_bind h
  refine hq_inv rfl rfl (Nat.le_trans (by decide) hd) rfl rfl (hq_rcv rfl rfl) (f_X9_isThisSign_run (Nat.le_sub_of_add_le (Nat.le_trans (by decide) hd)) hy1) rfl ?_
  by_cases c2 : y1.1 = 0
  · rw [if_pos c2] at h
    refine hq_izT rfl (hq_c_eq_T c2) ?_
    refine hq_p 1 58 [some (.ref 48), none] [.ref 48] (fun n h => rfl) ?_
    refine hq_gf (x := .int (hq_gi y1.2 48 6)) rfl rfl rfl rfl rfl ?_
    by_cases c3 : (hq_gi y1.2 48 6) = 0
    · rw [if_pos c3] at h
      refine hq_izT rfl (hq_c_eq_T c3) ?_
      exact f_X6_readSide_J87_run hd h
    · rw [if_neg c3] at h
      refine hq_izF rfl (hq_c_eq_F c3) ?_
      refine hq_p 1 65 [some (.ref 48), none] [.ref 48] (fun n h => rfl) ?_
      refine hq_gf (x := .ref 49) rfl rfl rfl rfl rfl ?_
      refine hq_bip (21 : Int32) rfl (by decide) ?_
      obtain ⟨y19, hy19, h⟩ := hq_bind h
      refine hq_inv rfl rfl (Nat.le_trans (by decide) hd) rfl rfl (hq_rcv rfl rfl) (f_X9_isKey_run (Nat.le_sub_of_add_le (Nat.le_trans (by decide) hd)) hy19) rfl ?_
      by_cases c20 : y19.1 = 0
      · rw [if_pos c20] at h
        refine hq_izT rfl (hq_c_eq_T c20) ?_
        exact f_X6_readSide_J87_run hd h
      · rw [if_neg c20] at h
        refine hq_izF rfl (hq_c_eq_F c20) ?_
        refine hq_p 1 77 [some (.ref 48), none] [.ref 48] (fun n h => rfl) ?_
        refine hq_bip (21 : Int32) rfl (by decide) ?_
        obtain ⟨s21, hs21, h⟩ := hq_bind h
        refine hq_inv rfl rfl (Nat.le_trans (by decide) hd) rfl rfl (hq_rcv rfl rfl) (f_X6_hang_run (Nat.le_sub_of_add_le (Nat.le_trans (by decide) hd)) hs21) rfl ?_
        refine hq_p 1 83 [some (.ref 48), none] [.ref 48] (fun n h => rfl) ?_
        obtain ⟨y22, hy22, h⟩ := hq_bind h
        refine hq_inv rfl rfl (Nat.le_trans (by decide) hd) rfl rfl (hq_rcv rfl rfl) (f_X6_passKnot_run (Nat.le_sub_of_add_le (Nat.le_trans (by decide) hd)) hy22) rfl ?_
        have hr : mm_rfit (mm_ret mc_X6_readSide) y22.1 = true := hq_ifT h
        rw [if_pos hr] at h
        have h := Option.some.inj h
        subst h
        exact hq_iret rfl hr
  · rw [if_neg c2] at h
    refine hq_izF rfl (hq_c_eq_F c2) ?_
    refine hq_p 1 13 [some (.ref 48), none] [.ref 48] (fun n h => rfl) ?_
    refine hq_gf (x := .int (hq_gi y1.2 48 4)) rfl rfl rfl rfl rfl ?_
    refine hq_p 1 18 [some (.ref 48), none] [.int (8 : Int32), .int (hq_gi y1.2 48 4)] (fun n h => rfl) ?_
    by_cases c23 : (hq_gi y1.2 48 4) < (8 : Int32)
    · rw [if_pos c23] at h
      refine hq_icT rfl (hq_c_lt_T c23) ?_
      refine hq_p 2 29 [some (.ref 48), none] [.ref 48, .ref 48] (fun n h => rfl) ?_
      refine hq_gf (x := .int (hq_gi y1.2 48 4)) rfl rfl rfl rfl rfl ?_
      refine hq_p 2 34 [some (.ref 48), none] [.int ((hq_gi y1.2 48 4) + (1 : Int32)), .ref 48] (fun n h => rfl) ?_
      obtain ⟨s24, hs24, h⟩ := hq_bind h
      refine hq_pfi rfl rfl rfl rfl rfl hs24 ?_
      refine hq_p 2 39 [some (.ref 48), none] [.int (1 : Int32), .ref 48] (fun n h => rfl) ?_
      obtain ⟨s25, hs25, h⟩ := hq_bind h
      refine hq_pfi rfl rfl rfl rfl rfl hs25 ?_
      refine hq_p 1 43 [some (.ref 48), none] [.ref 48] (fun n h => rfl) ?_
      refine hq_bip (40 : Int32) rfl (by decide) ?_
      obtain ⟨s26, hs26, h⟩ := hq_bind h
      refine hq_inv rfl rfl (Nat.le_trans (by decide) hd) rfl rfl (hq_rcv rfl rfl) (f_X6_hang_run (Nat.le_sub_of_add_le (Nat.le_trans (by decide) hd)) hs26) rfl ?_
      refine hq_p 1 49 [some (.ref 48), none] [.ref 48] (fun n h => rfl) ?_
      refine hq_gf (x := .ref 49) rfl rfl rfl rfl rfl ?_
      obtain ⟨s27, hs27, h⟩ := hq_bind h
      refine hq_inv rfl rfl (Nat.le_trans (by decide) hd) rfl rfl (hq_rcv rfl rfl) (f_X9_advance_run (Nat.le_sub_of_add_le (Nat.le_trans (by decide) hd)) hs27) rfl ?_
      refine hq_p 1 56 [some (.ref 48), none] [.int (1 : Int32)] (fun n h => rfl) ?_
      have h := Option.some.inj h
      subst h
      exact ⟨1, rfl⟩
    · rw [if_neg c23] at h
      refine hq_icF rfl (hq_c_lt_F c23) ?_
      refine hq_p 2 23 [some (.ref 48), none] [.int (2 : Int32), .ref 48] (fun n h => rfl) ?_
      obtain ⟨y28, hy28, h⟩ := hq_bind h
      refine hq_inv rfl rfl (Nat.le_trans (by decide) hd) rfl rfl (hq_rcv rfl rfl) (f_X6_failed_run (Nat.le_sub_of_add_le (Nat.le_trans (by decide) hd)) hy28) rfl ?_
      have hr : mm_rfit (mm_ret mc_X6_readSide) y28.1 = true := hq_ifT h
      rw [if_pos hr] at h
      have h := Option.some.inj h
      subst h
      exact hq_iret rfl hr
def f_X6_levelOf (n : Nat) (a0 : Int32) (s : hq_S) : Option (Int32 × hq_S) := if a0 = (19 : Int32) then some ((1 : Int32), s) else if a0 = (20 : Int32) then some ((0 : Int32), s) else if a0 = (21 : Int32) then some ((2 : Int32), s) else if a0 = (42 : Int32) then some ((5 : Int32), s) else if a0 = (43 : Int32) then some ((4 : Int32), s) else if a0 = (45 : Int32) then some ((4 : Int32), s) else if a0 = (47 : Int32) then some ((5 : Int32), s) else if a0 = (60 : Int32) then some ((3 : Int32), s) else if a0 = (61 : Int32) then some ((3 : Int32), s) else if a0 = (62 : Int32) then some ((3 : Int32), s) else if a0 = (256 : Int32) then some ((3 : Int32), s) else if a0 = (257 : Int32) then some ((3 : Int32), s) else if a0 = (258 : Int32) then some ((3 : Int32), s) else some ((-1 : Int32), s)
theorem f_X6_levelOf_run {xs : List Int32} {n d g : Nat} {a0 : Int32} {s : hq_S} {y : (Int32 × hq_S)} (hd : 0 ≤ d) (h : f_X6_levelOf n a0 s = some y) : hq_R (mm_O xs) d mc_X6_levelOf 0 [some (.int a0)] [] s g (some (.int y.1)) y.2 := by
  unfold f_X6_levelOf at h
  refine hq_p 1 1 [some (.int a0)] [.int a0] (fun n h => rfl) ?_
  by_cases c1 : a0 = (19 : Int32)
  · rw [if_pos c1] at h
    refine hq_lsw rfl (show _ = some 118 from by rw [c1]; decide) ?_
    refine hq_p 1 119 [some (.int a0)] [.int (1 : Int32)] (fun n h => rfl) ?_
    have h := Option.some.inj h
    subst h
    exact ⟨1, rfl⟩
  rw [if_neg c1] at h
  by_cases c2 : a0 = (20 : Int32)
  · rw [if_pos c2] at h
    refine hq_lsw rfl (show _ = some 116 from by rw [c2]; decide) ?_
    refine hq_p 1 117 [some (.int a0)] [.int (0 : Int32)] (fun n h => rfl) ?_
    have h := Option.some.inj h
    subst h
    exact ⟨1, rfl⟩
  rw [if_neg c2] at h
  by_cases c3 : a0 = (21 : Int32)
  · rw [if_pos c3] at h
    refine hq_lsw rfl (show _ = some 120 from by rw [c3]; decide) ?_
    refine hq_p 1 121 [some (.int a0)] [.int (2 : Int32)] (fun n h => rfl) ?_
    have h := Option.some.inj h
    subst h
    exact ⟨1, rfl⟩
  rw [if_neg c3] at h
  by_cases c4 : a0 = (42 : Int32)
  · rw [if_pos c4] at h
    refine hq_lsw rfl (show _ = some 126 from by rw [c4]; decide) ?_
    refine hq_p 1 127 [some (.int a0)] [.int (5 : Int32)] (fun n h => rfl) ?_
    have h := Option.some.inj h
    subst h
    exact ⟨1, rfl⟩
  rw [if_neg c4] at h
  by_cases c5 : a0 = (43 : Int32)
  · rw [if_pos c5] at h
    refine hq_lsw rfl (show _ = some 124 from by rw [c5]; decide) ?_
    refine hq_p 1 125 [some (.int a0)] [.int (4 : Int32)] (fun n h => rfl) ?_
    have h := Option.some.inj h
    subst h
    exact ⟨1, rfl⟩
  rw [if_neg c5] at h
  by_cases c6 : a0 = (45 : Int32)
  · rw [if_pos c6] at h
    refine hq_lsw rfl (show _ = some 124 from by rw [c6]; decide) ?_
    refine hq_p 1 125 [some (.int a0)] [.int (4 : Int32)] (fun n h => rfl) ?_
    have h := Option.some.inj h
    subst h
    exact ⟨1, rfl⟩
  rw [if_neg c6] at h
  by_cases c7 : a0 = (47 : Int32)
  · rw [if_pos c7] at h
    refine hq_lsw rfl (show _ = some 126 from by rw [c7]; decide) ?_
    refine hq_p 1 127 [some (.int a0)] [.int (5 : Int32)] (fun n h => rfl) ?_
    have h := Option.some.inj h
    subst h
    exact ⟨1, rfl⟩
  rw [if_neg c7] at h
  by_cases c8 : a0 = (60 : Int32)
  · rw [if_pos c8] at h
    refine hq_lsw rfl (show _ = some 122 from by rw [c8]; decide) ?_
    refine hq_p 1 123 [some (.int a0)] [.int (3 : Int32)] (fun n h => rfl) ?_
    have h := Option.some.inj h
    subst h
    exact ⟨1, rfl⟩
  rw [if_neg c8] at h
  by_cases c9 : a0 = (61 : Int32)
  · rw [if_pos c9] at h
    refine hq_lsw rfl (show _ = some 122 from by rw [c9]; decide) ?_
    refine hq_p 1 123 [some (.int a0)] [.int (3 : Int32)] (fun n h => rfl) ?_
    have h := Option.some.inj h
    subst h
    exact ⟨1, rfl⟩
  rw [if_neg c9] at h
  by_cases c10 : a0 = (62 : Int32)
  · rw [if_pos c10] at h
    refine hq_lsw rfl (show _ = some 122 from by rw [c10]; decide) ?_
    refine hq_p 1 123 [some (.int a0)] [.int (3 : Int32)] (fun n h => rfl) ?_
    have h := Option.some.inj h
    subst h
    exact ⟨1, rfl⟩
  rw [if_neg c10] at h
  by_cases c11 : a0 = (256 : Int32)
  · rw [if_pos c11] at h
    refine hq_lsw rfl (show _ = some 122 from by rw [c11]; decide) ?_
    refine hq_p 1 123 [some (.int a0)] [.int (3 : Int32)] (fun n h => rfl) ?_
    have h := Option.some.inj h
    subst h
    exact ⟨1, rfl⟩
  rw [if_neg c11] at h
  by_cases c12 : a0 = (257 : Int32)
  · rw [if_pos c12] at h
    refine hq_lsw rfl (show _ = some 122 from by rw [c12]; decide) ?_
    refine hq_p 1 123 [some (.int a0)] [.int (3 : Int32)] (fun n h => rfl) ?_
    have h := Option.some.inj h
    subst h
    exact ⟨1, rfl⟩
  rw [if_neg c12] at h
  by_cases c13 : a0 = (258 : Int32)
  · rw [if_pos c13] at h
    refine hq_lsw rfl (show _ = some 122 from by rw [c13]; decide) ?_
    refine hq_p 1 123 [some (.int a0)] [.int (3 : Int32)] (fun n h => rfl) ?_
    have h := Option.some.inj h
    subst h
    exact ⟨1, rfl⟩
  rw [if_neg c13] at h
  refine hq_lsw rfl (hq_lsw_d [(19 : Int32), (20 : Int32), (21 : Int32), (42 : Int32), (43 : Int32), (45 : Int32), (47 : Int32), (60 : Int32), (61 : Int32), (62 : Int32), (256 : Int32), (257 : Int32), (258 : Int32)] (by decide) rfl ⟨c1, c2, c3, c4, c5, c6, c7, c8, c9, c10, c11, c12, c13, trivial⟩) ?_
  refine hq_icn (-1 : Int32) rfl (by decide) ?_
  have h := Option.some.inj h
  subst h
  exact ⟨1, rfl⟩
def f_X6_settle_L0_B (n : Nat) (q0 : Int32 → hq_S → Option hq_S) (a1 : Int32) (s : hq_S) : Option hq_S := if 0 < (hq_gi s 48 3) then (hq_ld s 75 72 ((hq_gi s 48 3) - (1 : Int32))).bind fun x2 => (f_X6_levelOf n x2 s).bind fun y3 => if y3.1 < a1 then some y3.2 else (hq_pi y3.2 48 3 0 ((hq_gi y3.2 48 3) - (1 : Int32))).bind fun s5 => if hq_isT (hq_gr s5 48 1) then (hq_ld s5 75 72 (hq_gi s5 48 3)).bind fun x7 => (f_X4_put n ((hq_gr s5 48 1) + 9) ((20000 : Int32) + x7) s5).bind fun s8 => q0 a1 s8 else none else some s
def f_X6_settle_L0 (n : Nat) (m : Nat) : Int32 → hq_S → Option hq_S := Nat.rec (fun _ _ => none) (fun _ q => f_X6_settle_L0_B n q) m
theorem f_X6_settle_L0_Brun {xs : List Int32} {n d g : Nat} {a1 : Int32} {q0 : Int32 → hq_S → Option hq_S} {s : hq_S} {y : hq_S} (hd : 1 ≤ d) (e0 : ∀ (a1 : Int32) (s : hq_S), q0 a1 s = some y → hq_R (mm_O xs) d mc_X6_settle 0 [some (.ref 48), some (.int a1)] [] s g none y) (h : f_X6_settle_L0_B n q0 a1 s = some y) : hq_R (mm_O xs) d mc_X6_settle 0 [some (.ref 48), some (.int a1)] [] s g none y := by
  unfold f_X6_settle_L0_B at h
  refine hq_p 1 1 [some (.ref 48), some (.int a1)] [.ref 48] (fun n h => rfl) ?_
  refine hq_gf (x := .int (hq_gi s 48 3)) rfl rfl rfl rfl rfl ?_
  by_cases c1 : 0 < (hq_gi s 48 3)
  · rw [if_pos c1] at h
    refine hq_izF rfl (hq_c_le_F c1) ?_
    refine hq_p 1 8 [some (.ref 48), some (.int a1)] [.ref 48] (fun n h => rfl) ?_
    refine hq_gf (x := .ref 75) rfl rfl rfl rfl rfl ?_
    refine hq_p 1 12 [some (.ref 48), some (.int a1)] [.ref 48, .ref 75] (fun n h => rfl) ?_
    refine hq_gf (x := .int (hq_gi s 48 3)) rfl rfl rfl rfl rfl ?_
    refine hq_p 2 17 [some (.ref 48), some (.int a1)] [.int ((hq_gi s 48 3) - (1 : Int32)), .ref 75] (fun n h => rfl) ?_
    obtain ⟨x2, hx2, h⟩ := hq_bind h
    refine hq_iaload rfl rfl List.length_replicate hx2 ?_
    obtain ⟨y3, hy3, h⟩ := hq_bind h
    refine hq_ist rfl rfl rfl (Nat.le_trans (by decide) hd) rfl (f_X6_levelOf_run (Nat.le_sub_of_add_le (Nat.le_trans (by decide) hd)) hy3) rfl ?_
    refine hq_p 1 22 [some (.ref 48), some (.int a1)] [.int a1, .int y3.1] (fun n h => rfl) ?_
    by_cases c4 : y3.1 < a1
    · rw [if_pos c4] at h
      refine hq_icT rfl (hq_c_lt_T c4) ?_
      have h := Option.some.inj h
      subst h
      exact ⟨1, rfl⟩
    · rw [if_neg c4] at h
      refine hq_icF rfl (hq_c_lt_F c4) ?_
      refine hq_p 2 27 [some (.ref 48), some (.int a1)] [.ref 48, .ref 48] (fun n h => rfl) ?_
      refine hq_gf (x := .int (hq_gi y3.2 48 3)) rfl rfl rfl rfl rfl ?_
      refine hq_p 2 32 [some (.ref 48), some (.int a1)] [.int ((hq_gi y3.2 48 3) - (1 : Int32)), .ref 48] (fun n h => rfl) ?_
      obtain ⟨s5, hs5, h⟩ := hq_bind h
      refine hq_pfi rfl rfl rfl rfl rfl hs5 ?_
      refine hq_p 1 36 [some (.ref 48), some (.int a1)] [.ref 48] (fun n h => rfl) ?_
      refine hq_gf (x := .ref (hq_gr s5 48 1)) rfl rfl rfl rfl rfl ?_
      have m6 : hq_isT (hq_gr s5 48 1) := hq_ifT h
      rw [if_pos m6] at h
      refine hq_gf (x := .ref ((hq_gr s5 48 1) + 9)) rfl (hq_shT m6) rfl rfl (hq_fldr (hq_shT_u m6)) ?_
      refine hq_sip (20000 : Int32) rfl (by decide) ?_
      refine hq_p 1 46 [some (.ref 48), some (.int a1)] [.ref 48, .int (20000 : Int32), .ref ((hq_gr s5 48 1) + 9)] (fun n h => rfl) ?_
      refine hq_gf (x := .ref 75) rfl rfl rfl rfl rfl ?_
      refine hq_p 1 50 [some (.ref 48), some (.int a1)] [.ref 48, .ref 75, .int (20000 : Int32), .ref ((hq_gr s5 48 1) + 9)] (fun n h => rfl) ?_
      refine hq_gf (x := .int (hq_gi s5 48 3)) rfl rfl rfl rfl rfl ?_
      obtain ⟨x7, hx7, h⟩ := hq_bind h
      refine hq_iaload rfl rfl List.length_replicate hx7 ?_
      refine hq_p 1 55 [some (.ref 48), some (.int a1)] [.int ((20000 : Int32) + x7), .ref ((hq_gr s5 48 1) + 9)] (fun n h => rfl) ?_
      obtain ⟨s8, hs8, h⟩ := hq_bind h
      refine hq_inv rfl rfl (Nat.le_trans (by decide) hd) rfl rfl (hq_rcv (hq_shL (hq_shT_m9 m6)) rfl) (f_X4_put_run (Nat.le_sub_of_add_le (Nat.le_trans (by decide) hd)) (hq_shT_m9 m6) hs8) rfl ?_
      refine hq_p 1 0 [some (.ref 48), some (.int a1)] [] (fun n h => rfl) ?_
      exact e0 a1 s8 h
  · rw [if_neg c1] at h
    refine hq_izT rfl (hq_c_le_T c1) ?_
    have h := Option.some.inj h
    subst h
    exact ⟨1, rfl⟩
theorem f_X6_settle_L0_run {xs : List Int32} {n m d g : Nat} {a1 : Int32} {s : hq_S} {y : hq_S} (hd : 1 ≤ d) (h : f_X6_settle_L0 n m a1 s = some y) : hq_R (mm_O xs) d mc_X6_settle 0 [some (.ref 48), some (.int a1)] [] s g none y := by
  induction m generalizing a1 s with
  | zero => cases h
  | succ m ih => exact f_X6_settle_L0_Brun (n := n) hd (fun a1 s h => ih h) h
def f_X6_settle (n : Nat) (a1 : Int32) (s : hq_S) : Option hq_S := f_X6_settle_L0 n n a1 s
theorem f_X6_settle_run {xs : List Int32} {n d g : Nat} {a1 : Int32} {s : hq_S} {y : hq_S} (hd : 1 ≤ d) (h : f_X6_settle n a1 s = some y) : hq_R (mm_O xs) d mc_X6_settle 0 [some (.ref 48), some (.int a1)] [] s g none y := by
  unfold f_X6_settle at h
  exact f_X6_settle_L0_run hd h
def f_X6_readJoint_J100 (n : Nat) (a1 : Int32) (s : hq_S) : Option (Int32 × hq_S) := (f_X6_settle n (0 : Int32) s).bind fun s8 => if 0 < (hq_gi s8 48 4) then (f_X6_failed n (1 : Int32) s8).bind fun y10 => if y10.1 = 0 then some ((0 : Int32), y10.2) else some ((1 : Int32), y10.2) else some ((0 : Int32), s8)
theorem f_X6_readJoint_J100_run {xs : List Int32} {n d g : Nat} {a1 : Int32} {s : hq_S} {y : (Int32 × hq_S)} (hd : 3 ≤ d) (h : f_X6_readJoint_J100 n a1 s = some y) : hq_R (mm_O xs) d mc_X6_readJoint 100 [some (.ref 48), some (.int a1)] [] s g (some (.int y.1)) y.2 := by
  unfold f_X6_readJoint_J100 at h
  refine hq_p 2 102 [some (.ref 48), some (.int a1)] [.int (0 : Int32), .ref 48] (fun n h => rfl) ?_
  obtain ⟨s8, hs8, h⟩ := hq_bind h
  refine hq_inv rfl rfl (Nat.le_trans (by decide) hd) rfl rfl (hq_rcv rfl rfl) (f_X6_settle_run (Nat.le_sub_of_add_le (Nat.le_trans (by decide) hd)) hs8) rfl ?_
  refine hq_p 1 106 [some (.ref 48), some (.int a1)] [.ref 48] (fun n h => rfl) ?_
  refine hq_gf (x := .int (hq_gi s8 48 4)) rfl rfl rfl rfl rfl ?_
  by_cases c9 : 0 < (hq_gi s8 48 4)
  · rw [if_pos c9] at h
    refine hq_izF rfl (hq_c_le_F c9) ?_
    refine hq_p 2 114 [some (.ref 48), some (.int a1)] [.int (1 : Int32), .ref 48] (fun n h => rfl) ?_
    obtain ⟨y10, hy10, h⟩ := hq_bind h
    refine hq_inv rfl rfl (Nat.le_trans (by decide) hd) rfl rfl (hq_rcv rfl rfl) (f_X6_failed_run (Nat.le_sub_of_add_le (Nat.le_trans (by decide) hd)) hy10) rfl ?_
    by_cases c11 : y10.1 = 0
    · rw [if_pos c11] at h
      refine hq_izT rfl (hq_c_eq_T c11) ?_
      refine hq_p 1 125 [some (.ref 48), some (.int a1)] [.int (0 : Int32)] (fun n h => rfl) ?_
      have h := Option.some.inj h
      subst h
      exact ⟨1, rfl⟩
    · rw [if_neg c11] at h
      refine hq_izF rfl (hq_c_eq_F c11) ?_
      refine hq_p 2 125 [some (.ref 48), some (.int a1)] [.int (1 : Int32)] (fun n h => rfl) ?_
      have h := Option.some.inj h
      subst h
      exact ⟨1, rfl⟩
  · rw [if_neg c9] at h
    refine hq_izT rfl (hq_c_le_T c9) ?_
    refine hq_p 1 125 [some (.ref 48), some (.int a1)] [.int (0 : Int32)] (fun n h => rfl) ?_
    have h := Option.some.inj h
    subst h
    exact ⟨1, rfl⟩
def f_X6_readJoint_J167 (n : Nat) (a1 : Int32) (s : hq_S) : Option (Int32 × hq_S) := (f_X6_settle n a1 s).bind fun s14 => (f_X6_hang n (hq_gi s14 49 5) s14).bind fun s15 => (hq_pi s15 48 5 1 (1 : Int32)).bind fun s16 => (if a1 = 0 then some (1 : Int32) else if a1 = (1 : Int32) then some (1 : Int32) else some (0 : Int32)).bind fun z17 => (hq_pi s16 48 6 1 z17).bind fun s20 => (f_X6_passKnot n s20).bind fun y21 => if mm_rfit (mm_ret mc_X6_readJoint) y21.1 = true then some (y21.1, y21.2) else none
theorem f_X6_readJoint_J167_run {xs : List Int32} {n d g : Nat} {a1 : Int32} {s : hq_S} {y : (Int32 × hq_S)} (hd : 3 ≤ d) (h : f_X6_readJoint_J167 n a1 s = some y) : hq_R (mm_O xs) d mc_X6_readJoint 167 [some (.ref 48), some (.int a1)] [] s g (some (.int y.1)) y.2 := by
  unfold f_X6_readJoint_J167 at h
  refine hq_p 2 169 [some (.ref 48), some (.int a1)] [.int a1, .ref 48] (fun n h => rfl) ?_
  obtain ⟨s14, hs14, h⟩ := hq_bind h
  refine hq_inv rfl rfl (Nat.le_trans (by decide) hd) rfl rfl (hq_rcv rfl rfl) (f_X6_settle_run (Nat.le_sub_of_add_le (Nat.le_trans (by decide) hd)) hs14) rfl ?_
  refine hq_p 2 174 [some (.ref 48), some (.int a1)] [.ref 48, .ref 48] (fun n h => rfl) ?_
  refine hq_gf (x := .ref 49) rfl rfl rfl rfl rfl ?_
  refine hq_gf (x := .int (hq_gi s14 49 5)) rfl rfl rfl rfl rfl ?_
  obtain ⟨s15, hs15, h⟩ := hq_bind h
  refine hq_inv rfl rfl (Nat.le_trans (by decide) hd) rfl rfl (hq_rcv rfl rfl) (f_X6_hang_run (Nat.le_sub_of_add_le (Nat.le_trans (by decide) hd)) hs15) rfl ?_
  refine hq_p 2 185 [some (.ref 48), some (.int a1)] [.int (1 : Int32), .ref 48] (fun n h => rfl) ?_
  obtain ⟨s16, hs16, h⟩ := hq_bind h
  refine hq_pfi rfl rfl rfl rfl rfl hs16 ?_
  refine hq_p 2 190 [some (.ref 48), some (.int a1)] [.int a1, .ref 48] (fun n h => rfl) ?_
  obtain ⟨z17, hz17, h⟩ := hq_bind h
  suffices hT : hq_R (mm_O xs) d mc_X6_readJoint 203 [some (.ref 48), some (.int a1)] [.int z17, .ref 48] s16 g (some (.int y.1)) y.2 from by
    clear h
    have h := hz17
    by_cases c18 : a1 = 0
    · rw [if_pos c18] at h
      refine hq_izT rfl (hq_c_eq_T c18) ?_
      refine hq_p 2 203 [some (.ref 48), some (.int a1)] [.int (1 : Int32), .ref 48] (fun n h => rfl) ?_
      cases h
      exact hT
    · rw [if_neg c18] at h
      refine hq_izF rfl (hq_c_eq_F c18) ?_
      refine hq_p 2 195 [some (.ref 48), some (.int a1)] [.int (1 : Int32), .int a1, .ref 48] (fun n h => rfl) ?_
      by_cases c19 : a1 = (1 : Int32)
      · rw [if_pos c19] at h
        refine hq_icF rfl (hq_c_ne_F c19) ?_
        refine hq_p 2 203 [some (.ref 48), some (.int a1)] [.int (1 : Int32), .ref 48] (fun n h => rfl) ?_
        cases h
        exact hT
      · rw [if_neg c19] at h
        refine hq_icT rfl (hq_c_ne_T c19) ?_
        refine hq_p 1 203 [some (.ref 48), some (.int a1)] [.int (0 : Int32), .ref 48] (fun n h => rfl) ?_
        cases h
        exact hT
  obtain ⟨s20, hs20, h⟩ := hq_bind h
  refine hq_pfi rfl rfl rfl rfl rfl hs20 ?_
  refine hq_p 1 207 [some (.ref 48), some (.int a1)] [.ref 48] (fun n h => rfl) ?_
  obtain ⟨y21, hy21, h⟩ := hq_bind h
  refine hq_inv rfl rfl (Nat.le_trans (by decide) hd) rfl rfl (hq_rcv rfl rfl) (f_X6_passKnot_run (Nat.le_sub_of_add_le (Nat.le_trans (by decide) hd)) hy21) rfl ?_
  have hr : mm_rfit (mm_ret mc_X6_readJoint) y21.1 = true := hq_ifT h
  rw [if_pos hr] at h
  have h := Option.some.inj h
  subst h
  exact hq_iret rfl hr
def f_X6_readJoint_J53 (n : Nat) (s : hq_S) : Option (Int32 × hq_S) := (if (hq_gi s 49 4) = (5 : Int32) then (f_X6_levelOf n (hq_gi s 49 5) s).bind fun y4 => some (y4.1, y4.2) else if (hq_gi s 49 4) = (3 : Int32) then (f_X6_levelOf n (hq_gi s 49 5) s).bind fun y6 => some (y6.1, y6.2) else some ((-1 : Int32), s)).bind fun z2 => if z2.1 = (-1 : Int32) then f_X6_readJoint_J100 n z2.1 z2.2 else if z2.1 = (2 : Int32) then f_X6_readJoint_J100 n z2.1 z2.2 else if z2.1 = (3 : Int32) then (f_X6_settle n (4 : Int32) z2.2).bind fun s22 => if 0 < (hq_gi s22 48 3) then (hq_ld s22 75 72 ((hq_gi s22 48 3) - (1 : Int32))).bind fun x24 => (f_X6_levelOf n x24 s22).bind fun y25 => if y25.1 = (3 : Int32) then (f_X6_failed n (1 : Int32) y25.2).bind fun y27 => if mm_rfit (mm_ret mc_X6_readJoint) y27.1 = true then some (y27.1, y27.2) else none else f_X6_readJoint_J167 n z2.1 y25.2 else f_X6_readJoint_J167 n z2.1 s22 else f_X6_readJoint_J167 n z2.1 z2.2
theorem f_X6_readJoint_J53_run {xs : List Int32} {n d g : Nat} {s : hq_S} {y : (Int32 × hq_S)} (hd : 3 ≤ d) (h : f_X6_readJoint_J53 n s = some y) : hq_R (mm_O xs) d mc_X6_readJoint 53 [some (.ref 48), none] [] s g (some (.int y.1)) y.2 := by
  unfold f_X6_readJoint_J53 at h
  refine hq_p 1 54 [some (.ref 48), none] [.ref 48] (fun n h => rfl) ?_
  refine hq_gf (x := .ref 49) rfl rfl rfl rfl rfl ?_
  refine hq_gf (x := .int (hq_gi s 49 4)) rfl rfl rfl rfl rfl ?_
  refine hq_p 1 61 [some (.ref 48), none] [.int (5 : Int32), .int (hq_gi s 49 4)] (fun n h => rfl) ?_
  obtain ⟨z2, hz2, h⟩ := hq_bind h
  suffices hT : hq_R (mm_O xs) d mc_X6_readJoint 89 [some (.ref 48), none] [.int z2.1] z2.2 g (some (.int y.1)) y.2 from by
    clear h
    have h := hz2
    by_cases c3 : (hq_gi s 49 4) = (5 : Int32)
    · rw [if_pos c3] at h
      refine hq_icT rfl (hq_c_eq_T c3) ?_
      refine hq_p 1 76 [some (.ref 48), none] [.ref 48] (fun n h => rfl) ?_
      refine hq_gf (x := .ref 49) rfl rfl rfl rfl rfl ?_
      refine hq_gf (x := .int (hq_gi s 49 5)) rfl rfl rfl rfl rfl ?_
      obtain ⟨y4, hy4, h⟩ := hq_bind h
      refine hq_ist rfl rfl rfl (Nat.le_trans (by decide) hd) rfl (f_X6_levelOf_run (Nat.le_sub_of_add_le (Nat.le_trans (by decide) hd)) hy4) rfl ?_
      refine hq_p 1 89 [some (.ref 48), none] [.int y4.1] (fun n h => rfl) ?_
      cases h
      exact hT
    · rw [if_neg c3] at h
      refine hq_icF rfl (hq_c_eq_F c3) ?_
      refine hq_p 1 65 [some (.ref 48), none] [.ref 48] (fun n h => rfl) ?_
      refine hq_gf (x := .ref 49) rfl rfl rfl rfl rfl ?_
      refine hq_gf (x := .int (hq_gi s 49 4)) rfl rfl rfl rfl rfl ?_
      refine hq_p 1 72 [some (.ref 48), none] [.int (3 : Int32), .int (hq_gi s 49 4)] (fun n h => rfl) ?_
      by_cases c5 : (hq_gi s 49 4) = (3 : Int32)
      · rw [if_pos c5] at h
        refine hq_icF rfl (hq_c_ne_F c5) ?_
        refine hq_p 1 76 [some (.ref 48), none] [.ref 48] (fun n h => rfl) ?_
        refine hq_gf (x := .ref 49) rfl rfl rfl rfl rfl ?_
        refine hq_gf (x := .int (hq_gi s 49 5)) rfl rfl rfl rfl rfl ?_
        obtain ⟨y6, hy6, h⟩ := hq_bind h
        refine hq_ist rfl rfl rfl (Nat.le_trans (by decide) hd) rfl (f_X6_levelOf_run (Nat.le_sub_of_add_le (Nat.le_trans (by decide) hd)) hy6) rfl ?_
        refine hq_p 1 89 [some (.ref 48), none] [.int y6.1] (fun n h => rfl) ?_
        cases h
        exact hT
      · rw [if_neg c5] at h
        refine hq_icT rfl (hq_c_ne_T c5) ?_
        refine hq_icn (-1 : Int32) rfl (by decide) ?_
        cases h
        exact hT
  refine hq_p 2 91 [some (.ref 48), some (.int z2.1)] [.int z2.1] (fun n h => rfl) ?_
  refine hq_icn (-1 : Int32) rfl (by decide) ?_
  by_cases c7 : z2.1 = (-1 : Int32)
  · rw [if_pos c7] at h
    refine hq_icT rfl (hq_c_eq_T c7) ?_
    exact f_X6_readJoint_J100_run hd h
  · rw [if_neg c7] at h
    refine hq_icF rfl (hq_c_eq_F c7) ?_
    refine hq_p 2 97 [some (.ref 48), some (.int z2.1)] [.int (2 : Int32), .int z2.1] (fun n h => rfl) ?_
    by_cases c12 : z2.1 = (2 : Int32)
    · rw [if_pos c12] at h
      refine hq_icF rfl (hq_c_ne_F c12) ?_
      exact f_X6_readJoint_J100_run hd h
    · rw [if_neg c12] at h
      refine hq_icT rfl (hq_c_ne_T c12) ?_
      refine hq_p 2 128 [some (.ref 48), some (.int z2.1)] [.int (3 : Int32), .int z2.1] (fun n h => rfl) ?_
      by_cases c13 : z2.1 = (3 : Int32)
      · rw [if_pos c13] at h
        refine hq_icF rfl (hq_c_ne_F c13) ?_
        refine hq_p 2 133 [some (.ref 48), some (.int z2.1)] [.int (4 : Int32), .ref 48] (fun n h => rfl) ?_
        obtain ⟨s22, hs22, h⟩ := hq_bind h
        refine hq_inv rfl rfl (Nat.le_trans (by decide) hd) rfl rfl (hq_rcv rfl rfl) (f_X6_settle_run (Nat.le_sub_of_add_le (Nat.le_trans (by decide) hd)) hs22) rfl ?_
        refine hq_p 1 137 [some (.ref 48), some (.int z2.1)] [.ref 48] (fun n h => rfl) ?_
        refine hq_gf (x := .int (hq_gi s22 48 3)) rfl rfl rfl rfl rfl ?_
        by_cases c23 : 0 < (hq_gi s22 48 3)
        · rw [if_pos c23] at h
          refine hq_izF rfl (hq_c_le_F c23) ?_
          refine hq_p 1 144 [some (.ref 48), some (.int z2.1)] [.ref 48] (fun n h => rfl) ?_
          refine hq_gf (x := .ref 75) rfl rfl rfl rfl rfl ?_
          refine hq_p 1 148 [some (.ref 48), some (.int z2.1)] [.ref 48, .ref 75] (fun n h => rfl) ?_
          refine hq_gf (x := .int (hq_gi s22 48 3)) rfl rfl rfl rfl rfl ?_
          refine hq_p 2 153 [some (.ref 48), some (.int z2.1)] [.int ((hq_gi s22 48 3) - (1 : Int32)), .ref 75] (fun n h => rfl) ?_
          obtain ⟨x24, hx24, h⟩ := hq_bind h
          refine hq_iaload rfl rfl List.length_replicate hx24 ?_
          obtain ⟨y25, hy25, h⟩ := hq_bind h
          refine hq_ist rfl rfl rfl (Nat.le_trans (by decide) hd) rfl (f_X6_levelOf_run (Nat.le_sub_of_add_le (Nat.le_trans (by decide) hd)) hy25) rfl ?_
          refine hq_p 1 158 [some (.ref 48), some (.int z2.1)] [.int (3 : Int32), .int y25.1] (fun n h => rfl) ?_
          by_cases c26 : y25.1 = (3 : Int32)
          · rw [if_pos c26] at h
            refine hq_icF rfl (hq_c_ne_F c26) ?_
            refine hq_p 2 163 [some (.ref 48), some (.int z2.1)] [.int (1 : Int32), .ref 48] (fun n h => rfl) ?_
            obtain ⟨y27, hy27, h⟩ := hq_bind h
            refine hq_inv rfl rfl (Nat.le_trans (by decide) hd) rfl rfl (hq_rcv rfl rfl) (f_X6_failed_run (Nat.le_sub_of_add_le (Nat.le_trans (by decide) hd)) hy27) rfl ?_
            have hr : mm_rfit (mm_ret mc_X6_readJoint) y27.1 = true := hq_ifT h
            rw [if_pos hr] at h
            have h := Option.some.inj h
            subst h
            exact hq_iret rfl hr
          · rw [if_neg c26] at h
            refine hq_icT rfl (hq_c_ne_T c26) ?_
            exact f_X6_readJoint_J167_run hd h
        · rw [if_neg c23] at h
          refine hq_izT rfl (hq_c_le_T c23) ?_
          exact f_X6_readJoint_J167_run hd h
      · rw [if_neg c13] at h
        refine hq_icT rfl (hq_c_ne_T c13) ?_
        exact f_X6_readJoint_J167_run hd h
def f_X6_readJoint (n : Nat) (s : hq_S) : Option (Int32 × hq_S) := if 0 < (hq_gi s 48 4) then (f_X9_isThisSign n (41 : Int32) s).bind fun y28 => if y28.1 = 0 then f_X6_readJoint_J53 n y28.2 else (f_X6_settle n (0 : Int32) y28.2).bind fun s30 => (hq_pi s30 48 3 0 ((hq_gi s30 48 3) - (1 : Int32))).bind fun s31 => (hq_pi s31 48 4 0 ((hq_gi s31 48 4) - (1 : Int32))).bind fun s32 => (f_X9_advance n s32).bind fun s33 => some ((1 : Int32), s33) else f_X6_readJoint_J53 n s
theorem f_X6_readJoint_run {xs : List Int32} {n d g : Nat} {s : hq_S} {y : (Int32 × hq_S)} (hd : 3 ≤ d) (h : f_X6_readJoint n s = some y) : hq_R (mm_O xs) d mc_X6_readJoint 0 [some (.ref 48), none] [] s g (some (.int y.1)) y.2 := by
  unfold f_X6_readJoint at h
  refine hq_p 1 1 [some (.ref 48), none] [.ref 48] (fun n h => rfl) ?_
  refine hq_gf (x := .int (hq_gi s 48 4)) rfl rfl rfl rfl rfl ?_
  by_cases c1 : 0 < (hq_gi s 48 4)
  · rw [if_pos c1] at h
    refine hq_izF rfl (hq_c_le_F c1) ?_
    refine hq_p 1 8 [some (.ref 48), none] [.ref 48] (fun n h => rfl) ?_
    refine hq_gf (x := .ref 49) rfl rfl rfl rfl rfl ?_
    refine hq_bip (41 : Int32) rfl (by decide) ?_
    obtain ⟨y28, hy28, h⟩ := hq_bind h
    refine hq_inv rfl rfl (Nat.le_trans (by decide) hd) rfl rfl (hq_rcv rfl rfl) (f_X9_isThisSign_run (Nat.le_sub_of_add_le (Nat.le_trans (by decide) hd)) hy28) rfl ?_
    by_cases c29 : y28.1 = 0
    · rw [if_pos c29] at h
      refine hq_izT rfl (hq_c_eq_T c29) ?_
      exact f_X6_readJoint_J53_run hd h
    · rw [if_neg c29] at h
      refine hq_izF rfl (hq_c_eq_F c29) ?_
      refine hq_p 2 21 [some (.ref 48), none] [.int (0 : Int32), .ref 48] (fun n h => rfl) ?_
      obtain ⟨s30, hs30, h⟩ := hq_bind h
      refine hq_inv rfl rfl (Nat.le_trans (by decide) hd) rfl rfl (hq_rcv rfl rfl) (f_X6_settle_run (Nat.le_sub_of_add_le (Nat.le_trans (by decide) hd)) hs30) rfl ?_
      refine hq_p 2 26 [some (.ref 48), none] [.ref 48, .ref 48] (fun n h => rfl) ?_
      refine hq_gf (x := .int (hq_gi s30 48 3)) rfl rfl rfl rfl rfl ?_
      refine hq_p 2 31 [some (.ref 48), none] [.int ((hq_gi s30 48 3) - (1 : Int32)), .ref 48] (fun n h => rfl) ?_
      obtain ⟨s31, hs31, h⟩ := hq_bind h
      refine hq_pfi rfl rfl rfl rfl rfl hs31 ?_
      refine hq_p 2 36 [some (.ref 48), none] [.ref 48, .ref 48] (fun n h => rfl) ?_
      refine hq_gf (x := .int (hq_gi s31 48 4)) rfl rfl rfl rfl rfl ?_
      refine hq_p 2 41 [some (.ref 48), none] [.int ((hq_gi s31 48 4) - (1 : Int32)), .ref 48] (fun n h => rfl) ?_
      obtain ⟨s32, hs32, h⟩ := hq_bind h
      refine hq_pfi rfl rfl rfl rfl rfl hs32 ?_
      refine hq_p 1 45 [some (.ref 48), none] [.ref 48] (fun n h => rfl) ?_
      refine hq_gf (x := .ref 49) rfl rfl rfl rfl rfl ?_
      obtain ⟨s33, hs33, h⟩ := hq_bind h
      refine hq_inv rfl rfl (Nat.le_trans (by decide) hd) rfl rfl (hq_rcv rfl rfl) (f_X9_advance_run (Nat.le_sub_of_add_le (Nat.le_trans (by decide) hd)) hs33) rfl ?_
      refine hq_p 1 52 [some (.ref 48), none] [.int (1 : Int32)] (fun n h => rfl) ?_
      have h := Option.some.inj h
      subst h
      exact ⟨1, rfl⟩
  · rw [if_neg c1] at h
    refine hq_izT rfl (hq_c_le_T c1) ?_
    exact f_X6_readJoint_J53_run hd h
def f_X6_readLaw_J42 (n : Nat) (a1 : Int32) (s : hq_S) : Option (Int32 × hq_S) := (f_X6_failed n (1 : Int32) s).bind fun y5 => if mm_rfit (mm_ret mc_X6_readLaw) y5.1 = true then some (y5.1, y5.2) else none
theorem f_X6_readLaw_J42_run {xs : List Int32} {n d g : Nat} {a1 : Int32} {s : hq_S} {y : (Int32 × hq_S)} (hd : 4 ≤ d) (h : f_X6_readLaw_J42 n a1 s = some y) : hq_R (mm_O xs) d mc_X6_readLaw 42 [some (.ref 48), some (.int a1), none, none] [] s g (some (.int y.1)) y.2 := by
  unfold f_X6_readLaw_J42 at h
  refine hq_p 2 44 [some (.ref 48), some (.int a1), none, none] [.int (1 : Int32), .ref 48] (fun n h => rfl) ?_
  obtain ⟨y5, hy5, h⟩ := hq_bind h
  refine hq_inv rfl rfl (Nat.le_trans (by decide) hd) rfl rfl (hq_rcv rfl rfl) (f_X6_failed_run (Nat.le_sub_of_add_le (Nat.le_trans (by decide) hd)) hy5) rfl ?_
  have hr : mm_rfit (mm_ret mc_X6_readLaw) y5.1 = true := hq_ifT h
  rw [if_pos hr] at h
  have h := Option.some.inj h
  subst h
  exact hq_iret rfl hr
def f_X6_readLaw_J146 (n : Nat) (a1 : Int32) (a2 : Int32) (a3 : Int32) (s : hq_S) : Option (Int32 × hq_S) := if (hq_gi s 48 7) = 0 then if hq_isT (hq_gr s 48 1) then (f_X4_close n ((hq_gr s 48 1) + 9) a1 s).bind fun s20 => some ((1 : Int32), s20) else none else some ((0 : Int32), s)
theorem f_X6_readLaw_J146_run {xs : List Int32} {n d g : Nat} {a1 : Int32} {a2 : Int32} {a3 : Int32} {s : hq_S} {y : (Int32 × hq_S)} (hd : 4 ≤ d) (h : f_X6_readLaw_J146 n a1 a2 a3 s = some y) : hq_R (mm_O xs) d mc_X6_readLaw 146 [some (.ref 48), some (.int a1), some (.int a2), some (.int a3)] [] s g (some (.int y.1)) y.2 := by
  unfold f_X6_readLaw_J146 at h
  refine hq_p 1 147 [some (.ref 48), some (.int a1), some (.int a2), some (.int a3)] [.ref 48] (fun n h => rfl) ?_
  refine hq_gf (x := .int (hq_gi s 48 7)) rfl rfl rfl rfl rfl ?_
  by_cases c18 : (hq_gi s 48 7) = 0
  · rw [if_pos c18] at h
    refine hq_izT rfl (hq_c_eq_T c18) ?_
    refine hq_p 1 156 [some (.ref 48), some (.int a1), some (.int a2), some (.int a3)] [.ref 48] (fun n h => rfl) ?_
    refine hq_gf (x := .ref (hq_gr s 48 1)) rfl rfl rfl rfl rfl ?_
    have m19 : hq_isT (hq_gr s 48 1) := hq_ifT h
    rw [if_pos m19] at h
    refine hq_gf (x := .ref ((hq_gr s 48 1) + 9)) rfl (hq_shT m19) rfl rfl (hq_fldr (hq_shT_u m19)) ?_
    refine hq_p 1 163 [some (.ref 48), some (.int a1), some (.int a2), some (.int a3)] [.int a1, .ref ((hq_gr s 48 1) + 9)] (fun n h => rfl) ?_
    obtain ⟨s20, hs20, h⟩ := hq_bind h
    refine hq_inv rfl rfl (Nat.le_trans (by decide) hd) rfl rfl (hq_rcv (hq_shL (hq_shT_m9 m19)) rfl) (f_X4_close_run (Nat.le_sub_of_add_le (Nat.le_trans (by decide) hd)) (hq_shT_m9 m19) hs20) rfl ?_
    refine hq_p 1 167 [some (.ref 48), some (.int a1), some (.int a2), some (.int a3)] [.int (1 : Int32)] (fun n h => rfl) ?_
    have h := Option.some.inj h
    subst h
    exact ⟨1, rfl⟩
  · rw [if_neg c18] at h
    refine hq_izF rfl (hq_c_eq_F c18) ?_
    refine hq_p 1 154 [some (.ref 48), some (.int a1), some (.int a2), some (.int a3)] [.int (0 : Int32)] (fun n h => rfl) ?_
    have h := Option.some.inj h
    subst h
    exact ⟨1, rfl⟩
def f_X6_readLaw_L110_B (n : Nat) (q110 : Int32 → Int32 → Int32 → hq_S → Option (Int32 × hq_S)) (a1 : Int32) (a2 : Int32) (a3 : Int32) (s : hq_S) : Option (Int32 × hq_S) := if (700 : Int32) < a3 then f_X6_readLaw_J146 n a1 a2 a3 s else if a2 = 0 then f_X6_readLaw_J146 n a1 a2 a3 s else (if (hq_gi s 48 5) = 0 then (f_X6_readJoint n s).bind fun y24 => some (y24.1, y24.2) else (f_X6_readSide n s).bind fun y25 => some (y25.1, y25.2)).bind fun z22 => q110 a1 z22.1 (a3 + (1 : Int32)) z22.2
def f_X6_readLaw_L110 (n : Nat) (m : Nat) : Int32 → Int32 → Int32 → hq_S → Option (Int32 × hq_S) := Nat.rec (fun _ _ _ _ => none) (fun _ q => f_X6_readLaw_L110_B n q) m
theorem f_X6_readLaw_L110_Brun {xs : List Int32} {n d g : Nat} {a1 : Int32} {a2 : Int32} {a3 : Int32} {q110 : Int32 → Int32 → Int32 → hq_S → Option (Int32 × hq_S)} {s : hq_S} {y : (Int32 × hq_S)} (hd : 4 ≤ d) (e110 : ∀ (a1 : Int32) (a2 : Int32) (a3 : Int32) (s : hq_S), q110 a1 a2 a3 s = some y → hq_R (mm_O xs) d mc_X6_readLaw 110 [some (.ref 48), some (.int a1), some (.int a2), some (.int a3)] [] s g (some (.int y.1)) y.2) (h : f_X6_readLaw_L110_B n q110 a1 a2 a3 s = some y) : hq_R (mm_O xs) d mc_X6_readLaw 110 [some (.ref 48), some (.int a1), some (.int a2), some (.int a3)] [] s g (some (.int y.1)) y.2 := by
  unfold f_X6_readLaw_L110_B at h
  refine hq_p 1 111 [some (.ref 48), some (.int a1), some (.int a2), some (.int a3)] [.int a3] (fun n h => rfl) ?_
  refine hq_sip (700 : Int32) rfl (by decide) ?_
  by_cases c17 : (700 : Int32) < a3
  · rw [if_pos c17] at h
    refine hq_icT rfl (hq_c_gt_T c17) ?_
    exact f_X6_readLaw_J146_run hd h
  · rw [if_neg c17] at h
    refine hq_icF rfl (hq_c_gt_F c17) ?_
    refine hq_p 1 118 [some (.ref 48), some (.int a1), some (.int a2), some (.int a3)] [.int a2] (fun n h => rfl) ?_
    by_cases c21 : a2 = 0
    · rw [if_pos c21] at h
      refine hq_izT rfl (hq_c_eq_T c21) ?_
      exact f_X6_readLaw_J146_run hd h
    · rw [if_neg c21] at h
      refine hq_izF rfl (hq_c_eq_F c21) ?_
      refine hq_p 1 122 [some (.ref 48), some (.int a1), some (.int a2), some (.int a3)] [.ref 48] (fun n h => rfl) ?_
      refine hq_gf (x := .int (hq_gi s 48 5)) rfl rfl rfl rfl rfl ?_
      obtain ⟨z22, hz22, h⟩ := hq_bind h
      suffices hT : hq_R (mm_O xs) d mc_X6_readLaw 139 [some (.ref 48), some (.int a1), some (.int a2), some (.int a3)] [.int z22.1] z22.2 g (some (.int y.1)) y.2 from by
        clear h
        have h := hz22
        by_cases c23 : (hq_gi s 48 5) = 0
        · rw [if_pos c23] at h
          refine hq_izT rfl (hq_c_eq_T c23) ?_
          refine hq_p 1 136 [some (.ref 48), some (.int a1), some (.int a2), some (.int a3)] [.ref 48] (fun n h => rfl) ?_
          obtain ⟨y24, hy24, h⟩ := hq_bind h
          refine hq_inv rfl rfl (Nat.le_trans (by decide) hd) rfl rfl (hq_rcv rfl rfl) (f_X6_readJoint_run (Nat.le_sub_of_add_le (Nat.le_trans (by decide) hd)) hy24) rfl ?_
          cases h
          exact hT
        · rw [if_neg c23] at h
          refine hq_izF rfl (hq_c_eq_F c23) ?_
          refine hq_p 1 129 [some (.ref 48), some (.int a1), some (.int a2), some (.int a3)] [.ref 48] (fun n h => rfl) ?_
          obtain ⟨y25, hy25, h⟩ := hq_bind h
          refine hq_inv rfl rfl (Nat.le_trans (by decide) hd) rfl rfl (hq_rcv rfl rfl) (f_X6_readSide_run (Nat.le_sub_of_add_le (Nat.le_trans (by decide) hd)) hy25) rfl ?_
          refine hq_p 1 139 [some (.ref 48), some (.int a1), some (.int a2), some (.int a3)] [.int y25.1] (fun n h => rfl) ?_
          cases h
          exact hT
      refine hq_p 3 110 [some (.ref 48), some (.int a1), some (.int z22.1), some (.int (a3 + (1 : Int32)))] [] (fun n h => rfl) ?_
      exact e110 a1 z22.1 (a3 + (1 : Int32)) z22.2 h
theorem f_X6_readLaw_L110_run {xs : List Int32} {n m d g : Nat} {a1 : Int32} {a2 : Int32} {a3 : Int32} {s : hq_S} {y : (Int32 × hq_S)} (hd : 4 ≤ d) (h : f_X6_readLaw_L110 n m a1 a2 a3 s = some y) : hq_R (mm_O xs) d mc_X6_readLaw 110 [some (.ref 48), some (.int a1), some (.int a2), some (.int a3)] [] s g (some (.int y.1)) y.2 := by
  induction m generalizing a1 a2 a3 s with
  | zero => cases h
  | succ m ih => exact f_X6_readLaw_L110_Brun (n := n) hd (fun a1 a2 a3 s h => ih h) h
def f_X6_readLaw (n : Nat) (s : hq_S) : Option (Int32 × hq_S) := (f_X9_advance n s).bind fun s1 => (if (hq_gi s1 49 4) = (3 : Int32) then some ((hq_gi s1 49 5) - (9 : Int32)) else some (-1 : Int32)).bind fun z2 => if z2 < 0 then f_X6_readLaw_J42 n z2 s1 else if z2 < (3 : Int32) then if hq_isT (hq_gr s1 48 1) then (f_X4_isTold n ((hq_gr s1 48 1) + 9) z2 s1).bind fun y8 => if y8.1 = 0 then (f_X9_advance n y8.2).bind fun s10 => if hq_isT (hq_gr s10 48 1) then (f_X4_open n ((hq_gr s10 48 1) + 9) z2 s10).bind fun s12 => (hq_pi s12 48 3 0 (0 : Int32)).bind fun s13 => (hq_pi s13 48 4 0 (0 : Int32)).bind fun s14 => (hq_pi s14 48 5 1 (1 : Int32)).bind fun s15 => (hq_pi s15 48 6 1 (1 : Int32)).bind fun s16 => f_X6_readLaw_L110 n n z2 (1 : Int32) (0 : Int32) s16 else none else (f_X6_failed n (3 : Int32) y8.2).bind fun y26 => if mm_rfit (mm_ret mc_X6_readLaw) y26.1 = true then some (y26.1, y26.2) else none else none else f_X6_readLaw_J42 n z2 s1
theorem f_X6_readLaw_run {xs : List Int32} {n d g : Nat} {s : hq_S} {y : (Int32 × hq_S)} (hd : 4 ≤ d) (h : f_X6_readLaw n s = some y) : hq_R (mm_O xs) d mc_X6_readLaw 0 [some (.ref 48), none, none, none] [] s g (some (.int y.1)) y.2 := by
  unfold f_X6_readLaw at h
  refine hq_p 1 1 [some (.ref 48), none, none, none] [.ref 48] (fun n h => rfl) ?_
  refine hq_gf (x := .ref 49) rfl rfl rfl rfl rfl ?_
  obtain ⟨s1, hs1, h⟩ := hq_bind h
  refine hq_inv rfl rfl (Nat.le_trans (by decide) hd) rfl rfl (hq_rcv rfl rfl) (f_X9_advance_run (Nat.le_sub_of_add_le (Nat.le_trans (by decide) hd)) hs1) rfl ?_
  refine hq_p 1 8 [some (.ref 48), none, none, none] [.ref 48] (fun n h => rfl) ?_
  refine hq_gf (x := .ref 49) rfl rfl rfl rfl rfl ?_
  refine hq_gf (x := .int (hq_gi s1 49 4)) rfl rfl rfl rfl rfl ?_
  refine hq_p 1 15 [some (.ref 48), none, none, none] [.int (3 : Int32), .int (hq_gi s1 49 4)] (fun n h => rfl) ?_
  obtain ⟨z2, hz2, h⟩ := hq_bind h
  suffices hT : hq_R (mm_O xs) d mc_X6_readLaw 32 [some (.ref 48), none, none, none] [.int z2] s1 g (some (.int y.1)) y.2 from by
    clear h
    have h := hz2
    by_cases c3 : (hq_gi s1 49 4) = (3 : Int32)
    · rw [if_pos c3] at h
      refine hq_icF rfl (hq_c_ne_F c3) ?_
      refine hq_p 1 19 [some (.ref 48), none, none, none] [.ref 48] (fun n h => rfl) ?_
      refine hq_gf (x := .ref 49) rfl rfl rfl rfl rfl ?_
      refine hq_gf (x := .int (hq_gi s1 49 5)) rfl rfl rfl rfl rfl ?_
      refine hq_p 3 32 [some (.ref 48), none, none, none] [.int ((hq_gi s1 49 5) - (9 : Int32))] (fun n h => rfl) ?_
      cases h
      exact hT
    · rw [if_neg c3] at h
      refine hq_icT rfl (hq_c_ne_T c3) ?_
      refine hq_icn (-1 : Int32) rfl (by decide) ?_
      cases h
      exact hT
  refine hq_p 2 34 [some (.ref 48), some (.int z2), none, none] [.int z2] (fun n h => rfl) ?_
  by_cases c4 : z2 < 0
  · rw [if_pos c4] at h
    refine hq_izT rfl (hq_c_lt_T c4) ?_
    exact f_X6_readLaw_J42_run hd h
  · rw [if_neg c4] at h
    refine hq_izF rfl (hq_c_lt_F c4) ?_
    refine hq_p 2 39 [some (.ref 48), some (.int z2), none, none] [.int (3 : Int32), .int z2] (fun n h => rfl) ?_
    by_cases c6 : z2 < (3 : Int32)
    · rw [if_pos c6] at h
      refine hq_icT rfl (hq_c_lt_T c6) ?_
      refine hq_p 1 49 [some (.ref 48), some (.int z2), none, none] [.ref 48] (fun n h => rfl) ?_
      refine hq_gf (x := .ref (hq_gr s1 48 1)) rfl rfl rfl rfl rfl ?_
      have m7 : hq_isT (hq_gr s1 48 1) := hq_ifT h
      rw [if_pos m7] at h
      refine hq_gf (x := .ref ((hq_gr s1 48 1) + 9)) rfl (hq_shT m7) rfl rfl (hq_fldr (hq_shT_u m7)) ?_
      refine hq_p 1 56 [some (.ref 48), some (.int z2), none, none] [.int z2, .ref ((hq_gr s1 48 1) + 9)] (fun n h => rfl) ?_
      obtain ⟨y8, hy8, h⟩ := hq_bind h
      refine hq_inv rfl rfl (Nat.le_trans (by decide) hd) rfl rfl (hq_rcv (hq_shL (hq_shT_m9 m7)) rfl) (f_X4_isTold_run (Nat.le_sub_of_add_le (Nat.le_trans (by decide) hd)) (hq_shT_m9 m7) hy8) rfl ?_
      by_cases c9 : y8.1 = 0
      · rw [if_pos c9] at h
        refine hq_izT rfl (hq_c_eq_T c9) ?_
        refine hq_p 1 69 [some (.ref 48), some (.int z2), none, none] [.ref 48] (fun n h => rfl) ?_
        refine hq_gf (x := .ref 49) rfl rfl rfl rfl rfl ?_
        obtain ⟨s10, hs10, h⟩ := hq_bind h
        refine hq_inv rfl rfl (Nat.le_trans (by decide) hd) rfl rfl (hq_rcv rfl rfl) (f_X9_advance_run (Nat.le_sub_of_add_le (Nat.le_trans (by decide) hd)) hs10) rfl ?_
        refine hq_p 1 76 [some (.ref 48), some (.int z2), none, none] [.ref 48] (fun n h => rfl) ?_
        refine hq_gf (x := .ref (hq_gr s10 48 1)) rfl rfl rfl rfl rfl ?_
        have m11 : hq_isT (hq_gr s10 48 1) := hq_ifT h
        rw [if_pos m11] at h
        refine hq_gf (x := .ref ((hq_gr s10 48 1) + 9)) rfl (hq_shT m11) rfl rfl (hq_fldr (hq_shT_u m11)) ?_
        refine hq_p 1 83 [some (.ref 48), some (.int z2), none, none] [.int z2, .ref ((hq_gr s10 48 1) + 9)] (fun n h => rfl) ?_
        obtain ⟨s12, hs12, h⟩ := hq_bind h
        refine hq_inv rfl rfl (Nat.le_trans (by decide) hd) rfl rfl (hq_rcv (hq_shL (hq_shT_m9 m11)) rfl) (f_X4_open_run (Nat.le_sub_of_add_le (Nat.le_trans (by decide) hd)) (hq_shT_m9 m11) hs12) rfl ?_
        refine hq_p 2 88 [some (.ref 48), some (.int z2), none, none] [.int (0 : Int32), .ref 48] (fun n h => rfl) ?_
        obtain ⟨s13, hs13, h⟩ := hq_bind h
        refine hq_pfi rfl rfl rfl rfl rfl hs13 ?_
        refine hq_p 2 93 [some (.ref 48), some (.int z2), none, none] [.int (0 : Int32), .ref 48] (fun n h => rfl) ?_
        obtain ⟨s14, hs14, h⟩ := hq_bind h
        refine hq_pfi rfl rfl rfl rfl rfl hs14 ?_
        refine hq_p 2 98 [some (.ref 48), some (.int z2), none, none] [.int (1 : Int32), .ref 48] (fun n h => rfl) ?_
        obtain ⟨s15, hs15, h⟩ := hq_bind h
        refine hq_pfi rfl rfl rfl rfl rfl hs15 ?_
        refine hq_p 2 103 [some (.ref 48), some (.int z2), none, none] [.int (1 : Int32), .ref 48] (fun n h => rfl) ?_
        obtain ⟨s16, hs16, h⟩ := hq_bind h
        refine hq_pfi rfl rfl rfl rfl rfl hs16 ?_
        refine hq_p 4 110 [some (.ref 48), some (.int z2), some (.int (1 : Int32)), some (.int (0 : Int32))] [] (fun n h => rfl) ?_
        exact f_X6_readLaw_L110_run hd h
      · rw [if_neg c9] at h
        refine hq_izF rfl (hq_c_eq_F c9) ?_
        refine hq_p 2 64 [some (.ref 48), some (.int z2), none, none] [.int (3 : Int32), .ref 48] (fun n h => rfl) ?_
        obtain ⟨y26, hy26, h⟩ := hq_bind h
        refine hq_inv rfl rfl (Nat.le_trans (by decide) hd) rfl rfl (hq_rcv rfl rfl) (f_X6_failed_run (Nat.le_sub_of_add_le (Nat.le_trans (by decide) hd)) hy26) rfl ?_
        have hr : mm_rfit (mm_ret mc_X6_readLaw) y26.1 = true := hq_ifT h
        rw [if_pos hr] at h
        have h := Option.some.inj h
        subst h
        exact hq_iret rfl hr
    · rw [if_neg c6] at h
      refine hq_icF rfl (hq_c_lt_F c6) ?_
      exact f_X6_readLaw_J42_run hd h
def f_X6_readLine (n : Nat) (s : hq_S) : Option (Int32 × hq_S) := if (hq_gi s 49 4) = (3 : Int32) then if (hq_gi s 49 5) = (0 : Int32) then (f_X6_readCorner n s).bind fun y3 => if mm_rfit (mm_ret mc_X6_readLine) y3.1 = true then some (y3.1, y3.2) else none else if (hq_gi s 49 5) = (1 : Int32) then (f_X6_readLane n s).bind fun y5 => if mm_rfit (mm_ret mc_X6_readLine) y5.1 = true then some (y5.1, y5.2) else none else if (hq_gi s 49 5) = (2 : Int32) then (f_X6_readLane n s).bind fun y7 => if mm_rfit (mm_ret mc_X6_readLine) y7.1 = true then some (y7.1, y7.2) else none else if (hq_gi s 49 5) = (3 : Int32) then (f_X6_readGuard n s).bind fun y9 => if mm_rfit (mm_ret mc_X6_readLine) y9.1 = true then some (y9.1, y9.2) else none else if (hq_gi s 49 5) = (4 : Int32) then (f_X6_readBeat n s).bind fun y11 => if mm_rfit (mm_ret mc_X6_readLine) y11.1 = true then some (y11.1, y11.2) else none else if (hq_gi s 49 5) = (5 : Int32) then (f_X6_readThief n s).bind fun y13 => if mm_rfit (mm_ret mc_X6_readLine) y13.1 = true then some (y13.1, y13.2) else none else if (hq_gi s 49 5) = (6 : Int32) then (f_X6_readGrip n s).bind fun y15 => if mm_rfit (mm_ret mc_X6_readLine) y15.1 = true then some (y15.1, y15.2) else none else if (hq_gi s 49 5) = (7 : Int32) then (f_X6_readSeed n s).bind fun y17 => if mm_rfit (mm_ret mc_X6_readLine) y17.1 = true then some (y17.1, y17.2) else none else if (hq_gi s 49 5) = (8 : Int32) then (f_X6_readLaw n s).bind fun y19 => if mm_rfit (mm_ret mc_X6_readLine) y19.1 = true then some (y19.1, y19.2) else none else (f_X6_failed n (1 : Int32) s).bind fun y20 => if mm_rfit (mm_ret mc_X6_readLine) y20.1 = true then some (y20.1, y20.2) else none else (f_X6_failed n (1 : Int32) s).bind fun y21 => if mm_rfit (mm_ret mc_X6_readLine) y21.1 = true then some (y21.1, y21.2) else none
theorem f_X6_readLine_run {xs : List Int32} {n d g : Nat} {s : hq_S} {y : (Int32 × hq_S)} (hd : 5 ≤ d) (h : f_X6_readLine n s = some y) : hq_R (mm_O xs) d mc_X6_readLine 0 [some (.ref 48)] [] s g (some (.int y.1)) y.2 := by
  unfold f_X6_readLine at h
  refine hq_p 1 1 [some (.ref 48)] [.ref 48] (fun n h => rfl) ?_
  refine hq_gf (x := .ref 49) rfl rfl rfl rfl rfl ?_
  refine hq_gf (x := .int (hq_gi s 49 4)) rfl rfl rfl rfl rfl ?_
  refine hq_p 1 8 [some (.ref 48)] [.int (3 : Int32), .int (hq_gi s 49 4)] (fun n h => rfl) ?_
  by_cases c1 : (hq_gi s 49 4) = (3 : Int32)
  · rw [if_pos c1] at h
    refine hq_icT rfl (hq_c_eq_T c1) ?_
    refine hq_p 1 18 [some (.ref 48)] [.ref 48] (fun n h => rfl) ?_
    refine hq_gf (x := .ref 49) rfl rfl rfl rfl rfl ?_
    refine hq_gf (x := .int (hq_gi s 49 5)) rfl rfl rfl rfl rfl ?_
    by_cases c2 : (hq_gi s 49 5) = (0 : Int32)
    · rw [if_pos c2] at h
      refine hq_tsw rfl (show _ = some 76 from by rw [c2]; decide) ?_
      refine hq_p 1 77 [some (.ref 48)] [.ref 48] (fun n h => rfl) ?_
      obtain ⟨y3, hy3, h⟩ := hq_bind h
      refine hq_inv rfl rfl (Nat.le_trans (by decide) hd) rfl rfl (hq_rcv rfl rfl) (f_X6_readCorner_run (Nat.le_sub_of_add_le (Nat.le_trans (by decide) hd)) hy3) rfl ?_
      have hr : mm_rfit (mm_ret mc_X6_readLine) y3.1 = true := hq_ifT h
      rw [if_pos hr] at h
      have h := Option.some.inj h
      subst h
      exact hq_iret rfl hr
    rw [if_neg c2] at h
    by_cases c4 : (hq_gi s 49 5) = (1 : Int32)
    · rw [if_pos c4] at h
      refine hq_tsw rfl (show _ = some 81 from by rw [c4]; decide) ?_
      refine hq_p 1 82 [some (.ref 48)] [.ref 48] (fun n h => rfl) ?_
      obtain ⟨y5, hy5, h⟩ := hq_bind h
      refine hq_inv rfl rfl (Nat.le_trans (by decide) hd) rfl rfl (hq_rcv rfl rfl) (f_X6_readLane_run (Nat.le_sub_of_add_le (Nat.le_trans (by decide) hd)) hy5) rfl ?_
      have hr : mm_rfit (mm_ret mc_X6_readLine) y5.1 = true := hq_ifT h
      rw [if_pos hr] at h
      have h := Option.some.inj h
      subst h
      exact hq_iret rfl hr
    rw [if_neg c4] at h
    by_cases c6 : (hq_gi s 49 5) = (2 : Int32)
    · rw [if_pos c6] at h
      refine hq_tsw rfl (show _ = some 81 from by rw [c6]; decide) ?_
      refine hq_p 1 82 [some (.ref 48)] [.ref 48] (fun n h => rfl) ?_
      obtain ⟨y7, hy7, h⟩ := hq_bind h
      refine hq_inv rfl rfl (Nat.le_trans (by decide) hd) rfl rfl (hq_rcv rfl rfl) (f_X6_readLane_run (Nat.le_sub_of_add_le (Nat.le_trans (by decide) hd)) hy7) rfl ?_
      have hr : mm_rfit (mm_ret mc_X6_readLine) y7.1 = true := hq_ifT h
      rw [if_pos hr] at h
      have h := Option.some.inj h
      subst h
      exact hq_iret rfl hr
    rw [if_neg c6] at h
    by_cases c8 : (hq_gi s 49 5) = (3 : Int32)
    · rw [if_pos c8] at h
      refine hq_tsw rfl (show _ = some 86 from by rw [c8]; decide) ?_
      refine hq_p 1 87 [some (.ref 48)] [.ref 48] (fun n h => rfl) ?_
      obtain ⟨y9, hy9, h⟩ := hq_bind h
      refine hq_inv rfl rfl (Nat.le_trans (by decide) hd) rfl rfl (hq_rcv rfl rfl) (f_X6_readGuard_run (Nat.le_sub_of_add_le (Nat.le_trans (by decide) hd)) hy9) rfl ?_
      have hr : mm_rfit (mm_ret mc_X6_readLine) y9.1 = true := hq_ifT h
      rw [if_pos hr] at h
      have h := Option.some.inj h
      subst h
      exact hq_iret rfl hr
    rw [if_neg c8] at h
    by_cases c10 : (hq_gi s 49 5) = (4 : Int32)
    · rw [if_pos c10] at h
      refine hq_tsw rfl (show _ = some 91 from by rw [c10]; decide) ?_
      refine hq_p 1 92 [some (.ref 48)] [.ref 48] (fun n h => rfl) ?_
      obtain ⟨y11, hy11, h⟩ := hq_bind h
      refine hq_inv rfl rfl (Nat.le_trans (by decide) hd) rfl rfl (hq_rcv rfl rfl) (f_X6_readBeat_run (Nat.le_sub_of_add_le (Nat.le_trans (by decide) hd)) hy11) rfl ?_
      have hr : mm_rfit (mm_ret mc_X6_readLine) y11.1 = true := hq_ifT h
      rw [if_pos hr] at h
      have h := Option.some.inj h
      subst h
      exact hq_iret rfl hr
    rw [if_neg c10] at h
    by_cases c12 : (hq_gi s 49 5) = (5 : Int32)
    · rw [if_pos c12] at h
      refine hq_tsw rfl (show _ = some 96 from by rw [c12]; decide) ?_
      refine hq_p 1 97 [some (.ref 48)] [.ref 48] (fun n h => rfl) ?_
      obtain ⟨y13, hy13, h⟩ := hq_bind h
      refine hq_inv rfl rfl (Nat.le_trans (by decide) hd) rfl rfl (hq_rcv rfl rfl) (f_X6_readThief_run (Nat.le_sub_of_add_le (Nat.le_trans (by decide) hd)) hy13) rfl ?_
      have hr : mm_rfit (mm_ret mc_X6_readLine) y13.1 = true := hq_ifT h
      rw [if_pos hr] at h
      have h := Option.some.inj h
      subst h
      exact hq_iret rfl hr
    rw [if_neg c12] at h
    by_cases c14 : (hq_gi s 49 5) = (6 : Int32)
    · rw [if_pos c14] at h
      refine hq_tsw rfl (show _ = some 101 from by rw [c14]; decide) ?_
      refine hq_p 1 102 [some (.ref 48)] [.ref 48] (fun n h => rfl) ?_
      obtain ⟨y15, hy15, h⟩ := hq_bind h
      refine hq_inv rfl rfl (Nat.le_trans (by decide) hd) rfl rfl (hq_rcv rfl rfl) (f_X6_readGrip_run (Nat.le_sub_of_add_le (Nat.le_trans (by decide) hd)) hy15) rfl ?_
      have hr : mm_rfit (mm_ret mc_X6_readLine) y15.1 = true := hq_ifT h
      rw [if_pos hr] at h
      have h := Option.some.inj h
      subst h
      exact hq_iret rfl hr
    rw [if_neg c14] at h
    by_cases c16 : (hq_gi s 49 5) = (7 : Int32)
    · rw [if_pos c16] at h
      refine hq_tsw rfl (show _ = some 106 from by rw [c16]; decide) ?_
      refine hq_p 1 107 [some (.ref 48)] [.ref 48] (fun n h => rfl) ?_
      obtain ⟨y17, hy17, h⟩ := hq_bind h
      refine hq_inv rfl rfl (Nat.le_trans (by decide) hd) rfl rfl (hq_rcv rfl rfl) (f_X6_readSeed_run (Nat.le_sub_of_add_le (Nat.le_trans (by decide) hd)) hy17) rfl ?_
      have hr : mm_rfit (mm_ret mc_X6_readLine) y17.1 = true := hq_ifT h
      rw [if_pos hr] at h
      have h := Option.some.inj h
      subst h
      exact hq_iret rfl hr
    rw [if_neg c16] at h
    by_cases c18 : (hq_gi s 49 5) = (8 : Int32)
    · rw [if_pos c18] at h
      refine hq_tsw rfl (show _ = some 111 from by rw [c18]; decide) ?_
      refine hq_p 1 112 [some (.ref 48)] [.ref 48] (fun n h => rfl) ?_
      obtain ⟨y19, hy19, h⟩ := hq_bind h
      refine hq_inv rfl rfl (Nat.le_trans (by decide) hd) rfl rfl (hq_rcv rfl rfl) (f_X6_readLaw_run (Nat.le_sub_of_add_le (Nat.le_trans (by decide) hd)) hy19) rfl ?_
      have hr : mm_rfit (mm_ret mc_X6_readLine) y19.1 = true := hq_ifT h
      rw [if_pos hr] at h
      have h := Option.some.inj h
      subst h
      exact hq_iret rfl hr
    rw [if_neg c18] at h
    refine hq_tsw rfl (hq_tsw_d [(0 : Int32), (1 : Int32), (2 : Int32), (3 : Int32), (4 : Int32), (5 : Int32), (6 : Int32), (7 : Int32), (8 : Int32)] (by decide) rfl ⟨c2, c4, c6, c8, c10, c12, c14, c16, c18, trivial⟩) ?_
    refine hq_p 2 118 [some (.ref 48)] [.int (1 : Int32), .ref 48] (fun n h => rfl) ?_
    obtain ⟨y20, hy20, h⟩ := hq_bind h
    refine hq_inv rfl rfl (Nat.le_trans (by decide) hd) rfl rfl (hq_rcv rfl rfl) (f_X6_failed_run (Nat.le_sub_of_add_le (Nat.le_trans (by decide) hd)) hy20) rfl ?_
    have hr : mm_rfit (mm_ret mc_X6_readLine) y20.1 = true := hq_ifT h
    rw [if_pos hr] at h
    have h := Option.some.inj h
    subst h
    exact hq_iret rfl hr
  · rw [if_neg c1] at h
    refine hq_icF rfl (hq_c_eq_F c1) ?_
    refine hq_p 2 13 [some (.ref 48)] [.int (1 : Int32), .ref 48] (fun n h => rfl) ?_
    obtain ⟨y21, hy21, h⟩ := hq_bind h
    refine hq_inv rfl rfl (Nat.le_trans (by decide) hd) rfl rfl (hq_rcv rfl rfl) (f_X6_failed_run (Nat.le_sub_of_add_le (Nat.le_trans (by decide) hd)) hy21) rfl ?_
    have hr : mm_rfit (mm_ret mc_X6_readLine) y21.1 = true := hq_ifT h
    rw [if_pos hr] at h
    have h := Option.some.inj h
    subst h
    exact hq_iret rfl hr
def f_X6_passSign (n : Nat) (a1 : Int32) (s : hq_S) : Option (Int32 × hq_S) := (f_X9_isThisSign n a1 s).bind fun y1 => if y1.1 = 0 then (f_X6_failed n (1 : Int32) y1.2).bind fun y4 => if mm_rfit (mm_ret mc_X6_passSign) y4.1 = true then some (y4.1, y4.2) else none else (f_X9_advance n y1.2).bind fun s3 => some ((1 : Int32), s3)
theorem f_X6_passSign_run {xs : List Int32} {n d g : Nat} {a1 : Int32} {s : hq_S} {y : (Int32 × hq_S)} (hd : 2 ≤ d) (h : f_X6_passSign n a1 s = some y) : hq_R (mm_O xs) d mc_X6_passSign 0 [some (.ref 48), some (.int a1)] [] s g (some (.int y.1)) y.2 := by
  unfold f_X6_passSign at h
  refine hq_p 1 1 [some (.ref 48), some (.int a1)] [.ref 48] (fun n h => rfl) ?_
  refine hq_gf (x := .ref 49) rfl rfl rfl rfl rfl ?_
  refine hq_p 1 5 [some (.ref 48), some (.int a1)] [.int a1, .ref 49] (fun n h => rfl) ?_
  obtain ⟨y1, hy1, h⟩ := hq_bind h
  refine hq_inv rfl rfl (Nat.le_trans (by decide) hd) rfl rfl (hq_rcv rfl rfl) (f_X9_isThisSign_run (Nat.le_sub_of_add_le (Nat.le_trans (by decide) hd)) hy1) rfl ?_
  by_cases c2 : y1.1 = 0
  · rw [if_pos c2] at h
    refine hq_izF rfl (hq_c_ne_F c2) ?_
    refine hq_p 2 13 [some (.ref 48), some (.int a1)] [.int (1 : Int32), .ref 48] (fun n h => rfl) ?_
    obtain ⟨y4, hy4, h⟩ := hq_bind h
    refine hq_inv rfl rfl (Nat.le_trans (by decide) hd) rfl rfl (hq_rcv rfl rfl) (f_X6_failed_run (Nat.le_sub_of_add_le (Nat.le_trans (by decide) hd)) hy4) rfl ?_
    have hr : mm_rfit (mm_ret mc_X6_passSign) y4.1 = true := hq_ifT h
    rw [if_pos hr] at h
    have h := Option.some.inj h
    subst h
    exact hq_iret rfl hr
  · rw [if_neg c2] at h
    refine hq_izT rfl (hq_c_ne_T c2) ?_
    refine hq_p 1 18 [some (.ref 48), some (.int a1)] [.ref 48] (fun n h => rfl) ?_
    refine hq_gf (x := .ref 49) rfl rfl rfl rfl rfl ?_
    obtain ⟨s3, hs3, h⟩ := hq_bind h
    refine hq_inv rfl rfl (Nat.le_trans (by decide) hd) rfl rfl (hq_rcv rfl rfl) (f_X9_advance_run (Nat.le_sub_of_add_le (Nat.le_trans (by decide) hd)) hs3) rfl ?_
    refine hq_p 1 25 [some (.ref 48), some (.int a1)] [.int (1 : Int32)] (fun n h => rfl) ?_
    have h := Option.some.inj h
    subst h
    exact ⟨1, rfl⟩
def f_X6_readText_L36_B (n : Nat) (q36 : Nat → Int32 → Nat → hq_S → Option (Int32 × hq_S)) (k1 : Nat) (a2 : Int32) (k3 : Nat) (s : hq_S) : Option (Int32 × hq_S) := if (hq_gi s 48 9) < (700 : Int32) then if (hq_gi s 49 4) = 0 then some ((1 : Int32), s) else (f_X6_readLine n s).bind fun y10 => if y10.1 = 0 then some ((0 : Int32), y10.2) else (f_X6_passSign n (59 : Int32) y10.2).bind fun y12 => if y12.1 = 0 then some ((0 : Int32), y12.2) else (hq_pi y12.2 48 9 0 ((hq_gi y12.2 48 9) + (1 : Int32))).bind fun s14 => q36 k1 a2 k3 s14 else some ((1 : Int32), s)
def f_X6_readText_L36 (n : Nat) (m : Nat) : Nat → Int32 → Nat → hq_S → Option (Int32 × hq_S) := Nat.rec (fun _ _ _ _ => none) (fun _ q => f_X6_readText_L36_B n q) m
theorem f_X6_readText_L36_Brun {xs : List Int32} {n d g : Nat} {k1 : Nat} {a2 : Int32} {k3 : Nat} {q36 : Nat → Int32 → Nat → hq_S → Option (Int32 × hq_S)} {s : hq_S} {y : (Int32 × hq_S)} (hd : 6 ≤ d) (e36 : ∀ (k1 : Nat) (a2 : Int32) (k3 : Nat) (s : hq_S) (m3_ : hq_isT k3), q36 k1 a2 k3 s = some y → hq_R (mm_O xs) d mc_X6_readText 36 [some (.ref 48), some (.ref k1), some (.int a2), some (.ref k3)] [] s g (some (.int y.1)) y.2) (m3_ : hq_isT k3) (h : f_X6_readText_L36_B n q36 k1 a2 k3 s = some y) : hq_R (mm_O xs) d mc_X6_readText 36 [some (.ref 48), some (.ref k1), some (.int a2), some (.ref k3)] [] s g (some (.int y.1)) y.2 := by
  unfold f_X6_readText_L36_B at h
  refine hq_p 1 37 [some (.ref 48), some (.ref k1), some (.int a2), some (.ref k3)] [.ref 48] (fun n h => rfl) ?_
  refine hq_gf (x := .int (hq_gi s 48 9)) rfl rfl rfl rfl rfl ?_
  refine hq_sip (700 : Int32) rfl (by decide) ?_
  by_cases c8 : (hq_gi s 48 9) < (700 : Int32)
  · rw [if_pos c8] at h
    refine hq_icF rfl (hq_c_ge_F c8) ?_
    refine hq_p 1 47 [some (.ref 48), some (.ref k1), some (.int a2), some (.ref k3)] [.ref 48] (fun n h => rfl) ?_
    refine hq_gf (x := .ref 49) rfl rfl rfl rfl rfl ?_
    refine hq_gf (x := .int (hq_gi s 49 4)) rfl rfl rfl rfl rfl ?_
    by_cases c9 : (hq_gi s 49 4) = 0
    · rw [if_pos c9] at h
      refine hq_izT rfl (hq_c_eq_T c9) ?_
      refine hq_p 1 88 [some (.ref 48), some (.ref k1), some (.int a2), some (.ref k3)] [.int (1 : Int32)] (fun n h => rfl) ?_
      have h := Option.some.inj h
      subst h
      exact ⟨1, rfl⟩
    · rw [if_neg c9] at h
      refine hq_izF rfl (hq_c_eq_F c9) ?_
      refine hq_p 1 57 [some (.ref 48), some (.ref k1), some (.int a2), some (.ref k3)] [.ref 48] (fun n h => rfl) ?_
      obtain ⟨y10, hy10, h⟩ := hq_bind h
      refine hq_inv rfl rfl (Nat.le_trans (by decide) hd) rfl rfl (hq_rcv rfl rfl) (f_X6_readLine_run (Nat.le_sub_of_add_le (Nat.le_trans (by decide) hd)) hy10) rfl ?_
      by_cases c11 : y10.1 = 0
      · rw [if_pos c11] at h
        refine hq_izT rfl (hq_c_eq_T c11) ?_
        refine hq_p 1 73 [some (.ref 48), some (.ref k1), some (.int a2), some (.ref k3)] [.int (0 : Int32)] (fun n h => rfl) ?_
        have h := Option.some.inj h
        subst h
        exact ⟨1, rfl⟩
      · rw [if_neg c11] at h
        refine hq_izF rfl (hq_c_eq_F c11) ?_
        refine hq_p 1 64 [some (.ref 48), some (.ref k1), some (.int a2), some (.ref k3)] [.ref 48] (fun n h => rfl) ?_
        refine hq_bip (59 : Int32) rfl (by decide) ?_
        obtain ⟨y12, hy12, h⟩ := hq_bind h
        refine hq_inv rfl rfl (Nat.le_trans (by decide) hd) rfl rfl (hq_rcv rfl rfl) (f_X6_passSign_run (Nat.le_sub_of_add_le (Nat.le_trans (by decide) hd)) hy12) rfl ?_
        by_cases c13 : y12.1 = 0
        · rw [if_pos c13] at h
          refine hq_izF rfl (hq_c_ne_F c13) ?_
          refine hq_p 1 73 [some (.ref 48), some (.ref k1), some (.int a2), some (.ref k3)] [.int (0 : Int32)] (fun n h => rfl) ?_
          have h := Option.some.inj h
          subst h
          exact ⟨1, rfl⟩
        · rw [if_neg c13] at h
          refine hq_izT rfl (hq_c_ne_T c13) ?_
          refine hq_p 2 76 [some (.ref 48), some (.ref k1), some (.int a2), some (.ref k3)] [.ref 48, .ref 48] (fun n h => rfl) ?_
          refine hq_gf (x := .int (hq_gi y12.2 48 9)) rfl rfl rfl rfl rfl ?_
          refine hq_p 2 81 [some (.ref 48), some (.ref k1), some (.int a2), some (.ref k3)] [.int ((hq_gi y12.2 48 9) + (1 : Int32)), .ref 48] (fun n h => rfl) ?_
          obtain ⟨s14, hs14, h⟩ := hq_bind h
          refine hq_pfi rfl rfl rfl rfl rfl hs14 ?_
          refine hq_p 1 36 [some (.ref 48), some (.ref k1), some (.int a2), some (.ref k3)] [] (fun n h => rfl) ?_
          exact e36 k1 a2 k3 s14 m3_ h
  · rw [if_neg c8] at h
    refine hq_icT rfl (hq_c_ge_T c8) ?_
    refine hq_p 1 88 [some (.ref 48), some (.ref k1), some (.int a2), some (.ref k3)] [.int (1 : Int32)] (fun n h => rfl) ?_
    have h := Option.some.inj h
    subst h
    exact ⟨1, rfl⟩
theorem f_X6_readText_L36_run {xs : List Int32} {n m d g : Nat} {k1 : Nat} {a2 : Int32} {k3 : Nat} {s : hq_S} {y : (Int32 × hq_S)} (hd : 6 ≤ d) (m3_ : hq_isT k3) (h : f_X6_readText_L36 n m k1 a2 k3 s = some y) : hq_R (mm_O xs) d mc_X6_readText 36 [some (.ref 48), some (.ref k1), some (.int a2), some (.ref k3)] [] s g (some (.int y.1)) y.2 := by
  induction m generalizing k1 a2 k3 s with
  | zero => cases h
  | succ m ih => exact f_X6_readText_L36_Brun (n := n) hd (fun k1 a2 k3 s m3_ h => ih m3_ h) m3_ h
def f_X6_readText (n : Nat) (k1 : Nat) (a2 : Int32) (k3 : Nat) (s : hq_S) : Option (Int32 × hq_S) := (hq_pr s 48 1 k3).bind fun s1 => if hq_isT (hq_gr s1 48 1) then (f_X10_clear n (hq_gr s1 48 1) s1).bind fun s3 => (hq_pi s3 48 7 0 (0 : Int32)).bind fun s4 => (hq_pi s4 48 8 0 (-1 : Int32)).bind fun s5 => (hq_pi s5 48 9 0 (0 : Int32)).bind fun s6 => (f_X9_start n k1 a2 s6).bind fun s7 => f_X6_readText_L36 n n k1 a2 k3 s7 else none
theorem f_X6_readText_run {xs : List Int32} {n d g : Nat} {k1 : Nat} {a2 : Int32} {k3 : Nat} {s : hq_S} {y : (Int32 × hq_S)} (hd : 6 ≤ d) (m3_ : hq_isT k3) (h : f_X6_readText n k1 a2 k3 s = some y) : hq_R (mm_O xs) d mc_X6_readText 0 [some (.ref 48), some (.ref k1), some (.int a2), some (.ref k3)] [] s g (some (.int y.1)) y.2 := by
  unfold f_X6_readText at h
  refine hq_p 2 2 [some (.ref 48), some (.ref k1), some (.int a2), some (.ref k3)] [.ref k3, .ref 48] (fun n h => rfl) ?_
  obtain ⟨s1, hs1, h⟩ := hq_bind h
  refine hq_pfr rfl rfl rfl rfl rfl rfl hs1 ?_
  refine hq_p 1 6 [some (.ref 48), some (.ref k1), some (.int a2), some (.ref k3)] [.ref 48] (fun n h => rfl) ?_
  refine hq_gf (x := .ref (hq_gr s1 48 1)) rfl rfl rfl rfl rfl ?_
  have m2 : hq_isT (hq_gr s1 48 1) := hq_ifT h
  rw [if_pos m2] at h
  obtain ⟨s3, hs3, h⟩ := hq_bind h
  refine hq_inv rfl rfl (Nat.le_trans (by decide) hd) rfl rfl (hq_rcv (hq_shT m2) rfl) (f_X10_clear_run (Nat.le_sub_of_add_le (Nat.le_trans (by decide) hd)) m2 hs3) rfl ?_
  refine hq_p 2 14 [some (.ref 48), some (.ref k1), some (.int a2), some (.ref k3)] [.int (0 : Int32), .ref 48] (fun n h => rfl) ?_
  obtain ⟨s4, hs4, h⟩ := hq_bind h
  refine hq_pfi rfl rfl rfl rfl rfl hs4 ?_
  refine hq_p 1 18 [some (.ref 48), some (.ref k1), some (.int a2), some (.ref k3)] [.ref 48] (fun n h => rfl) ?_
  refine hq_icn (-1 : Int32) rfl (by decide) ?_
  obtain ⟨s5, hs5, h⟩ := hq_bind h
  refine hq_pfi rfl rfl rfl rfl rfl hs5 ?_
  refine hq_p 2 24 [some (.ref 48), some (.ref k1), some (.int a2), some (.ref k3)] [.int (0 : Int32), .ref 48] (fun n h => rfl) ?_
  obtain ⟨s6, hs6, h⟩ := hq_bind h
  refine hq_pfi rfl rfl rfl rfl rfl hs6 ?_
  refine hq_p 1 28 [some (.ref 48), some (.ref k1), some (.int a2), some (.ref k3)] [.ref 48] (fun n h => rfl) ?_
  refine hq_gf (x := .ref 49) rfl rfl rfl rfl rfl ?_
  refine hq_p 2 33 [some (.ref 48), some (.ref k1), some (.int a2), some (.ref k3)] [.int a2, .ref k1, .ref 49] (fun n h => rfl) ?_
  obtain ⟨s7, hs7, h⟩ := hq_bind h
  refine hq_inv rfl rfl (Nat.le_trans (by decide) hd) rfl rfl (hq_rcv rfl rfl) (f_X9_start_run (Nat.le_sub_of_add_le (Nat.le_trans (by decide) hd)) hs7) rfl ?_
  exact f_X6_readText_L36_run hd m3_ h
def f_X7_letGo_L39_B (n : Nat) (q6 : Nat → Nat → Int32 → hq_S → Option hq_S) (q39 : Nat → Nat → Int32 → Int32 → Int32 → hq_S → Option hq_S) (k0 : Nat) (k1 : Nat) (a2 : Int32) (a3 : Int32) (a4 : Int32) (s : hq_S) : Option hq_S := if a4 < ((1 : Int32) <<< (a2 &&& 31)) then (hq_ldiA s k1 a4).bind fun x8 => (hq_stiA s k1 (a4 ||| ((1 : Int32) <<< (a2 &&& 31))) (x8 ||| a3)).bind fun s9 => q39 k0 k1 a2 a3 (a4 + (1 : Int32)) s9 else q6 k0 k1 (a2 + (1 : Int32)) s
def f_X7_letGo_L39 (n : Nat) (q6 : Nat → Nat → Int32 → hq_S → Option hq_S) (m : Nat) : Nat → Nat → Int32 → Int32 → Int32 → hq_S → Option hq_S := Nat.rec (fun _ _ _ _ _ _ => none) (fun _ q => f_X7_letGo_L39_B n q6 q) m
theorem f_X7_letGo_L39_Brun {xs : List Int32} {n d g : Nat} {k0 : Nat} {k1 : Nat} {a2 : Int32} {a3 : Int32} {a4 : Int32} {q6 : Nat → Nat → Int32 → hq_S → Option hq_S} {q39 : Nat → Nat → Int32 → Int32 → Int32 → hq_S → Option hq_S} {s : hq_S} {y : hq_S} (hd : 0 ≤ d) (e6 : ∀ (k0 : Nat) (k1 : Nat) (a2 : Int32) (o3 : Option Value) (o4 : Option Value) (s : hq_S) (m0_ : hq_isS k0), q6 k0 k1 a2 s = some y → hq_R (mm_O xs) d mc_X7_letGo 6 [some (.ref k0), some (.ref k1), some (.int a2), o3, o4] [] s g none y) (e39 : ∀ (k0 : Nat) (k1 : Nat) (a2 : Int32) (a3 : Int32) (a4 : Int32) (s : hq_S) (m0_ : hq_isS k0), q39 k0 k1 a2 a3 a4 s = some y → hq_R (mm_O xs) d mc_X7_letGo 39 [some (.ref k0), some (.ref k1), some (.int a2), some (.int a3), some (.int a4)] [] s g none y) (m0_ : hq_isS k0) (h : f_X7_letGo_L39_B n q6 q39 k0 k1 a2 a3 a4 s = some y) : hq_R (mm_O xs) d mc_X7_letGo 39 [some (.ref k0), some (.ref k1), some (.int a2), some (.int a3), some (.int a4)] [] s g none y := by
  unfold f_X7_letGo_L39_B at h
  refine hq_p 4 44 [some (.ref k0), some (.ref k1), some (.int a2), some (.int a3), some (.int a4)] [.int ((1 : Int32) <<< (a2 &&& 31)), .int a4] (fun n h => rfl) ?_
  by_cases c7 : a4 < ((1 : Int32) <<< (a2 &&& 31))
  · rw [if_pos c7] at h
    refine hq_icF rfl (hq_c_ge_F c7) ?_
    refine hq_p 8 57 [some (.ref k0), some (.ref k1), some (.int a2), some (.int a3), some (.int a4)] [.int a4, .ref k1, .int (a4 ||| ((1 : Int32) <<< (a2 &&& 31))), .ref k1] (fun n h => rfl) ?_
    obtain ⟨x8, hx8, h⟩ := hq_bind h
    refine hq_ialoadA rfl hx8 ?_
    refine hq_p 2 60 [some (.ref k0), some (.ref k1), some (.int a2), some (.int a3), some (.int a4)] [.int (x8 ||| a3), .int (a4 ||| ((1 : Int32) <<< (a2 &&& 31))), .ref k1] (fun n h => rfl) ?_
    obtain ⟨s9, hs9, h⟩ := hq_bind h
    refine hq_iastoreA rfl hs9 ?_
    refine hq_p 2 39 [some (.ref k0), some (.ref k1), some (.int a2), some (.int a3), some (.int (a4 + (1 : Int32)))] [] (fun n h => rfl) ?_
    exact e39 k0 k1 a2 a3 (a4 + (1 : Int32)) s9 m0_ h
  · rw [if_neg c7] at h
    refine hq_icT rfl (hq_c_ge_T c7) ?_
    refine hq_p 2 6 [some (.ref k0), some (.ref k1), some (.int (a2 + (1 : Int32))), some (.int a3), some (.int a4)] [] (fun n h => rfl) ?_
    exact e6 k0 k1 (a2 + (1 : Int32)) _ _ s m0_ h
theorem f_X7_letGo_L39_run {xs : List Int32} {n m d g : Nat} {k0 : Nat} {k1 : Nat} {a2 : Int32} {a3 : Int32} {a4 : Int32} {q6 : Nat → Nat → Int32 → hq_S → Option hq_S} {s : hq_S} {y : hq_S} (hd : 0 ≤ d) (e6 : ∀ (k0 : Nat) (k1 : Nat) (a2 : Int32) (o3 : Option Value) (o4 : Option Value) (s : hq_S) (m0_ : hq_isS k0), q6 k0 k1 a2 s = some y → hq_R (mm_O xs) d mc_X7_letGo 6 [some (.ref k0), some (.ref k1), some (.int a2), o3, o4] [] s g none y) (m0_ : hq_isS k0) (h : f_X7_letGo_L39 n q6 m k0 k1 a2 a3 a4 s = some y) : hq_R (mm_O xs) d mc_X7_letGo 39 [some (.ref k0), some (.ref k1), some (.int a2), some (.int a3), some (.int a4)] [] s g none y := by
  induction m generalizing k0 k1 a2 a3 a4 s with
  | zero => cases h
  | succ m ih => exact f_X7_letGo_L39_Brun (n := n) hd e6 (fun k0 k1 a2 a3 a4 s m0_ h => ih m0_ h) m0_ h
def f_X7_letGo_L6_B (n : Nat) (q6 : Nat → Nat → Int32 → hq_S → Option hq_S) (k0 : Nat) (k1 : Nat) (a2 : Int32) (s : hq_S) : Option hq_S := if a2 < (hq_gi s k0 0) then (hq_ld s (k0 + 1) 10 a2).bind fun x3 => (if x3 = 0 then some ((1 : Int32) <<< (a2 &&& 31)) else (hq_ld s (k0 + 1) 10 a2).bind fun x6 => some x6).bind fun z4 => f_X7_letGo_L39 n q6 n k0 k1 a2 z4 (0 : Int32) s else some s
def f_X7_letGo_L6 (n : Nat) (m : Nat) : Nat → Nat → Int32 → hq_S → Option hq_S := Nat.rec (fun _ _ _ _ => none) (fun _ q => f_X7_letGo_L6_B n q) m
theorem f_X7_letGo_L6_Brun {xs : List Int32} {n d g : Nat} {k0 : Nat} {k1 : Nat} {a2 : Int32} {o3 : Option Value} {o4 : Option Value} {q6 : Nat → Nat → Int32 → hq_S → Option hq_S} {s : hq_S} {y : hq_S} (hd : 0 ≤ d) (e6 : ∀ (k0 : Nat) (k1 : Nat) (a2 : Int32) (o3 : Option Value) (o4 : Option Value) (s : hq_S) (m0_ : hq_isS k0), q6 k0 k1 a2 s = some y → hq_R (mm_O xs) d mc_X7_letGo 6 [some (.ref k0), some (.ref k1), some (.int a2), o3, o4] [] s g none y) (m0_ : hq_isS k0) (h : f_X7_letGo_L6_B n q6 k0 k1 a2 s = some y) : hq_R (mm_O xs) d mc_X7_letGo 6 [some (.ref k0), some (.ref k1), some (.int a2), o3, o4] [] s g none y := by
  unfold f_X7_letGo_L6_B at h
  refine hq_p 2 8 [some (.ref k0), some (.ref k1), some (.int a2), o3, o4] [.ref k0, .int a2] (fun n h => rfl) ?_
  refine hq_gf (x := .int (hq_gi s k0 0)) rfl (hq_shS m0_) rfl rfl rfl ?_
  by_cases c2 : a2 < (hq_gi s k0 0)
  · rw [if_pos c2] at h
    refine hq_icF rfl (hq_c_ge_F c2) ?_
    refine hq_p 1 15 [some (.ref k0), some (.ref k1), some (.int a2), o3, o4] [.ref k0] (fun n h => rfl) ?_
    refine hq_gf (x := .ref (k0 + 1)) rfl (hq_shS m0_) rfl rfl (hq_fldr (hq_shS_u m0_)) ?_
    refine hq_p 1 19 [some (.ref k0), some (.ref k1), some (.int a2), o3, o4] [.int a2, .ref (k0 + 1)] (fun n h => rfl) ?_
    obtain ⟨x3, hx3, h⟩ := hq_bind h
    refine hq_iaload rfl (hq_shS_1 m0_) List.length_replicate hx3 ?_
    obtain ⟨z4, hz4, h⟩ := hq_bind h
    suffices hT : hq_R (mm_O xs) d mc_X7_letGo 35 [some (.ref k0), some (.ref k1), some (.int a2), o3, o4] [.int z4] s g none y from by
      clear h
      have h := hz4
      by_cases c5 : x3 = 0
      · rw [if_pos c5] at h
        refine hq_izF rfl (hq_c_ne_F c5) ?_
        refine hq_p 4 35 [some (.ref k0), some (.ref k1), some (.int a2), o3, o4] [.int ((1 : Int32) <<< (a2 &&& 31))] (fun n h => rfl) ?_
        cases h
        exact hT
      · rw [if_neg c5] at h
        refine hq_izT rfl (hq_c_ne_T c5) ?_
        refine hq_p 1 30 [some (.ref k0), some (.ref k1), some (.int a2), o3, o4] [.ref k0] (fun n h => rfl) ?_
        refine hq_gf (x := .ref (k0 + 1)) rfl (hq_shS m0_) rfl rfl (hq_fldr (hq_shS_u m0_)) ?_
        refine hq_p 1 34 [some (.ref k0), some (.ref k1), some (.int a2), o3, o4] [.int a2, .ref (k0 + 1)] (fun n h => rfl) ?_
        obtain ⟨x6, hx6, h⟩ := hq_bind h
        refine hq_iaload rfl (hq_shS_1 m0_) List.length_replicate hx6 ?_
        cases h
        exact hT
    refine hq_p 3 39 [some (.ref k0), some (.ref k1), some (.int a2), some (.int z4), some (.int (0 : Int32))] [] (fun n h => rfl) ?_
    exact f_X7_letGo_L39_run hd e6 m0_ h
  · rw [if_neg c2] at h
    refine hq_icT rfl (hq_c_ge_T c2) ?_
    have h := Option.some.inj h
    subst h
    exact ⟨1, rfl⟩
theorem f_X7_letGo_L6_run {xs : List Int32} {n m d g : Nat} {k0 : Nat} {k1 : Nat} {a2 : Int32} {o3 : Option Value} {o4 : Option Value} {s : hq_S} {y : hq_S} (hd : 0 ≤ d) (m0_ : hq_isS k0) (h : f_X7_letGo_L6 n m k0 k1 a2 s = some y) : hq_R (mm_O xs) d mc_X7_letGo 6 [some (.ref k0), some (.ref k1), some (.int a2), o3, o4] [] s g none y := by
  induction m generalizing k0 k1 a2 o3 o4 s with
  | zero => cases h
  | succ m ih => exact f_X7_letGo_L6_Brun (n := n) hd (fun k0 k1 a2 o3 o4 s m0_ h => ih m0_ h) m0_ h
def f_X7_letGo (n : Nat) (k0 : Nat) (k1 : Nat) (s : hq_S) : Option hq_S := (hq_stiA s k1 (0 : Int32) (0 : Int32)).bind fun s1 => f_X7_letGo_L6 n n k0 k1 (0 : Int32) s1
theorem f_X7_letGo_run {xs : List Int32} {n d g : Nat} {k0 : Nat} {k1 : Nat} {s : hq_S} {y : hq_S} (hd : 0 ≤ d) (m0_ : hq_isS k0) (h : f_X7_letGo n k0 k1 s = some y) : hq_R (mm_O xs) d mc_X7_letGo 0 [some (.ref k0), some (.ref k1), none, none, none] [] s g none y := by
  unfold f_X7_letGo at h
  refine hq_p 3 3 [some (.ref k0), some (.ref k1), none, none, none] [.int (0 : Int32), .int (0 : Int32), .ref k1] (fun n h => rfl) ?_
  obtain ⟨s1, hs1, h⟩ := hq_bind h
  refine hq_iastoreA rfl hs1 ?_
  refine hq_p 2 6 [some (.ref k0), some (.ref k1), some (.int (0 : Int32)), none, none] [] (fun n h => rfl) ?_
  exact f_X7_letGo_L6_run hd m0_ h
def f_J6_bitCount_0f7a4 (n : Nat) (a0 : Int32) (s : hq_S) : Option (Int32 × hq_S) := some (((((((((a0 - ((a0.toUInt32 >>> ((1 : Int32).toUInt32 &&& Int32.toUInt32 31)).toInt32 &&& (1431655765 : Int32))) &&& (858993459 : Int32)) + (((a0 - ((a0.toUInt32 >>> ((1 : Int32).toUInt32 &&& Int32.toUInt32 31)).toInt32 &&& (1431655765 : Int32))).toUInt32 >>> ((2 : Int32).toUInt32 &&& Int32.toUInt32 31)).toInt32 &&& (858993459 : Int32))) + ((((a0 - ((a0.toUInt32 >>> ((1 : Int32).toUInt32 &&& Int32.toUInt32 31)).toInt32 &&& (1431655765 : Int32))) &&& (858993459 : Int32)) + (((a0 - ((a0.toUInt32 >>> ((1 : Int32).toUInt32 &&& Int32.toUInt32 31)).toInt32 &&& (1431655765 : Int32))).toUInt32 >>> ((2 : Int32).toUInt32 &&& Int32.toUInt32 31)).toInt32 &&& (858993459 : Int32))).toUInt32 >>> ((4 : Int32).toUInt32 &&& Int32.toUInt32 31)).toInt32) &&& (252645135 : Int32)) + ((((((a0 - ((a0.toUInt32 >>> ((1 : Int32).toUInt32 &&& Int32.toUInt32 31)).toInt32 &&& (1431655765 : Int32))) &&& (858993459 : Int32)) + (((a0 - ((a0.toUInt32 >>> ((1 : Int32).toUInt32 &&& Int32.toUInt32 31)).toInt32 &&& (1431655765 : Int32))).toUInt32 >>> ((2 : Int32).toUInt32 &&& Int32.toUInt32 31)).toInt32 &&& (858993459 : Int32))) + ((((a0 - ((a0.toUInt32 >>> ((1 : Int32).toUInt32 &&& Int32.toUInt32 31)).toInt32 &&& (1431655765 : Int32))) &&& (858993459 : Int32)) + (((a0 - ((a0.toUInt32 >>> ((1 : Int32).toUInt32 &&& Int32.toUInt32 31)).toInt32 &&& (1431655765 : Int32))).toUInt32 >>> ((2 : Int32).toUInt32 &&& Int32.toUInt32 31)).toInt32 &&& (858993459 : Int32))).toUInt32 >>> ((4 : Int32).toUInt32 &&& Int32.toUInt32 31)).toInt32) &&& (252645135 : Int32)).toUInt32 >>> ((8 : Int32).toUInt32 &&& Int32.toUInt32 31)).toInt32) + (((((((a0 - ((a0.toUInt32 >>> ((1 : Int32).toUInt32 &&& Int32.toUInt32 31)).toInt32 &&& (1431655765 : Int32))) &&& (858993459 : Int32)) + (((a0 - ((a0.toUInt32 >>> ((1 : Int32).toUInt32 &&& Int32.toUInt32 31)).toInt32 &&& (1431655765 : Int32))).toUInt32 >>> ((2 : Int32).toUInt32 &&& Int32.toUInt32 31)).toInt32 &&& (858993459 : Int32))) + ((((a0 - ((a0.toUInt32 >>> ((1 : Int32).toUInt32 &&& Int32.toUInt32 31)).toInt32 &&& (1431655765 : Int32))) &&& (858993459 : Int32)) + (((a0 - ((a0.toUInt32 >>> ((1 : Int32).toUInt32 &&& Int32.toUInt32 31)).toInt32 &&& (1431655765 : Int32))).toUInt32 >>> ((2 : Int32).toUInt32 &&& Int32.toUInt32 31)).toInt32 &&& (858993459 : Int32))).toUInt32 >>> ((4 : Int32).toUInt32 &&& Int32.toUInt32 31)).toInt32) &&& (252645135 : Int32)) + ((((((a0 - ((a0.toUInt32 >>> ((1 : Int32).toUInt32 &&& Int32.toUInt32 31)).toInt32 &&& (1431655765 : Int32))) &&& (858993459 : Int32)) + (((a0 - ((a0.toUInt32 >>> ((1 : Int32).toUInt32 &&& Int32.toUInt32 31)).toInt32 &&& (1431655765 : Int32))).toUInt32 >>> ((2 : Int32).toUInt32 &&& Int32.toUInt32 31)).toInt32 &&& (858993459 : Int32))) + ((((a0 - ((a0.toUInt32 >>> ((1 : Int32).toUInt32 &&& Int32.toUInt32 31)).toInt32 &&& (1431655765 : Int32))) &&& (858993459 : Int32)) + (((a0 - ((a0.toUInt32 >>> ((1 : Int32).toUInt32 &&& Int32.toUInt32 31)).toInt32 &&& (1431655765 : Int32))).toUInt32 >>> ((2 : Int32).toUInt32 &&& Int32.toUInt32 31)).toInt32 &&& (858993459 : Int32))).toUInt32 >>> ((4 : Int32).toUInt32 &&& Int32.toUInt32 31)).toInt32) &&& (252645135 : Int32)).toUInt32 >>> ((8 : Int32).toUInt32 &&& Int32.toUInt32 31)).toInt32).toUInt32 >>> ((16 : Int32).toUInt32 &&& Int32.toUInt32 31)).toInt32) &&& (63 : Int32)), s)
theorem f_J6_bitCount_0f7a4_run {xs : List Int32} {n d g : Nat} {a0 : Int32} {s : hq_S} {y : (Int32 × hq_S)} (hd : 0 ≤ d) (h : f_J6_bitCount_0f7a4 n a0 s = some y) : hq_R (mm_O xs) d mc_J6_bitCount_0f7a4 0 [some (.int a0)] [] s g (some (.int y.1)) y.2 := by
  unfold f_J6_bitCount_0f7a4 at h
  refine hq_p 4 4 [some (.int a0)] [.int (a0.toUInt32 >>> ((1 : Int32).toUInt32 &&& Int32.toUInt32 31)).toInt32, .int a0] (fun n h => rfl) ?_
  refine hq_lcw (1431655765 : Int32) rfl (by decide) ?_
  refine hq_p 4 11 [some (.int (a0 - ((a0.toUInt32 >>> ((1 : Int32).toUInt32 &&& Int32.toUInt32 31)).toInt32 &&& (1431655765 : Int32))))] [.int (a0 - ((a0.toUInt32 >>> ((1 : Int32).toUInt32 &&& Int32.toUInt32 31)).toInt32 &&& (1431655765 : Int32)))] (fun n h => rfl) ?_
  refine hq_lcw (858993459 : Int32) rfl (by decide) ?_
  refine hq_p 4 18 [some (.int (a0 - ((a0.toUInt32 >>> ((1 : Int32).toUInt32 &&& Int32.toUInt32 31)).toInt32 &&& (1431655765 : Int32))))] [.int ((a0 - ((a0.toUInt32 >>> ((1 : Int32).toUInt32 &&& Int32.toUInt32 31)).toInt32 &&& (1431655765 : Int32))).toUInt32 >>> ((2 : Int32).toUInt32 &&& Int32.toUInt32 31)).toInt32, .int ((a0 - ((a0.toUInt32 >>> ((1 : Int32).toUInt32 &&& Int32.toUInt32 31)).toInt32 &&& (1431655765 : Int32))) &&& (858993459 : Int32))] (fun n h => rfl) ?_
  refine hq_lcw (858993459 : Int32) rfl (by decide) ?_
  refine hq_p 8 29 [some (.int (((a0 - ((a0.toUInt32 >>> ((1 : Int32).toUInt32 &&& Int32.toUInt32 31)).toInt32 &&& (1431655765 : Int32))) &&& (858993459 : Int32)) + (((a0 - ((a0.toUInt32 >>> ((1 : Int32).toUInt32 &&& Int32.toUInt32 31)).toInt32 &&& (1431655765 : Int32))).toUInt32 >>> ((2 : Int32).toUInt32 &&& Int32.toUInt32 31)).toInt32 &&& (858993459 : Int32))))] [.int ((((a0 - ((a0.toUInt32 >>> ((1 : Int32).toUInt32 &&& Int32.toUInt32 31)).toInt32 &&& (1431655765 : Int32))) &&& (858993459 : Int32)) + (((a0 - ((a0.toUInt32 >>> ((1 : Int32).toUInt32 &&& Int32.toUInt32 31)).toInt32 &&& (1431655765 : Int32))).toUInt32 >>> ((2 : Int32).toUInt32 &&& Int32.toUInt32 31)).toInt32 &&& (858993459 : Int32))) + ((((a0 - ((a0.toUInt32 >>> ((1 : Int32).toUInt32 &&& Int32.toUInt32 31)).toInt32 &&& (1431655765 : Int32))) &&& (858993459 : Int32)) + (((a0 - ((a0.toUInt32 >>> ((1 : Int32).toUInt32 &&& Int32.toUInt32 31)).toInt32 &&& (1431655765 : Int32))).toUInt32 >>> ((2 : Int32).toUInt32 &&& Int32.toUInt32 31)).toInt32 &&& (858993459 : Int32))).toUInt32 >>> ((4 : Int32).toUInt32 &&& Int32.toUInt32 31)).toInt32)] (fun n h => rfl) ?_
  refine hq_lcw (252645135 : Int32) rfl (by decide) ?_
  refine hq_p 15 49 [some (.int (((((((a0 - ((a0.toUInt32 >>> ((1 : Int32).toUInt32 &&& Int32.toUInt32 31)).toInt32 &&& (1431655765 : Int32))) &&& (858993459 : Int32)) + (((a0 - ((a0.toUInt32 >>> ((1 : Int32).toUInt32 &&& Int32.toUInt32 31)).toInt32 &&& (1431655765 : Int32))).toUInt32 >>> ((2 : Int32).toUInt32 &&& Int32.toUInt32 31)).toInt32 &&& (858993459 : Int32))) + ((((a0 - ((a0.toUInt32 >>> ((1 : Int32).toUInt32 &&& Int32.toUInt32 31)).toInt32 &&& (1431655765 : Int32))) &&& (858993459 : Int32)) + (((a0 - ((a0.toUInt32 >>> ((1 : Int32).toUInt32 &&& Int32.toUInt32 31)).toInt32 &&& (1431655765 : Int32))).toUInt32 >>> ((2 : Int32).toUInt32 &&& Int32.toUInt32 31)).toInt32 &&& (858993459 : Int32))).toUInt32 >>> ((4 : Int32).toUInt32 &&& Int32.toUInt32 31)).toInt32) &&& (252645135 : Int32)) + ((((((a0 - ((a0.toUInt32 >>> ((1 : Int32).toUInt32 &&& Int32.toUInt32 31)).toInt32 &&& (1431655765 : Int32))) &&& (858993459 : Int32)) + (((a0 - ((a0.toUInt32 >>> ((1 : Int32).toUInt32 &&& Int32.toUInt32 31)).toInt32 &&& (1431655765 : Int32))).toUInt32 >>> ((2 : Int32).toUInt32 &&& Int32.toUInt32 31)).toInt32 &&& (858993459 : Int32))) + ((((a0 - ((a0.toUInt32 >>> ((1 : Int32).toUInt32 &&& Int32.toUInt32 31)).toInt32 &&& (1431655765 : Int32))) &&& (858993459 : Int32)) + (((a0 - ((a0.toUInt32 >>> ((1 : Int32).toUInt32 &&& Int32.toUInt32 31)).toInt32 &&& (1431655765 : Int32))).toUInt32 >>> ((2 : Int32).toUInt32 &&& Int32.toUInt32 31)).toInt32 &&& (858993459 : Int32))).toUInt32 >>> ((4 : Int32).toUInt32 &&& Int32.toUInt32 31)).toInt32) &&& (252645135 : Int32)).toUInt32 >>> ((8 : Int32).toUInt32 &&& Int32.toUInt32 31)).toInt32) + (((((((a0 - ((a0.toUInt32 >>> ((1 : Int32).toUInt32 &&& Int32.toUInt32 31)).toInt32 &&& (1431655765 : Int32))) &&& (858993459 : Int32)) + (((a0 - ((a0.toUInt32 >>> ((1 : Int32).toUInt32 &&& Int32.toUInt32 31)).toInt32 &&& (1431655765 : Int32))).toUInt32 >>> ((2 : Int32).toUInt32 &&& Int32.toUInt32 31)).toInt32 &&& (858993459 : Int32))) + ((((a0 - ((a0.toUInt32 >>> ((1 : Int32).toUInt32 &&& Int32.toUInt32 31)).toInt32 &&& (1431655765 : Int32))) &&& (858993459 : Int32)) + (((a0 - ((a0.toUInt32 >>> ((1 : Int32).toUInt32 &&& Int32.toUInt32 31)).toInt32 &&& (1431655765 : Int32))).toUInt32 >>> ((2 : Int32).toUInt32 &&& Int32.toUInt32 31)).toInt32 &&& (858993459 : Int32))).toUInt32 >>> ((4 : Int32).toUInt32 &&& Int32.toUInt32 31)).toInt32) &&& (252645135 : Int32)) + ((((((a0 - ((a0.toUInt32 >>> ((1 : Int32).toUInt32 &&& Int32.toUInt32 31)).toInt32 &&& (1431655765 : Int32))) &&& (858993459 : Int32)) + (((a0 - ((a0.toUInt32 >>> ((1 : Int32).toUInt32 &&& Int32.toUInt32 31)).toInt32 &&& (1431655765 : Int32))).toUInt32 >>> ((2 : Int32).toUInt32 &&& Int32.toUInt32 31)).toInt32 &&& (858993459 : Int32))) + ((((a0 - ((a0.toUInt32 >>> ((1 : Int32).toUInt32 &&& Int32.toUInt32 31)).toInt32 &&& (1431655765 : Int32))) &&& (858993459 : Int32)) + (((a0 - ((a0.toUInt32 >>> ((1 : Int32).toUInt32 &&& Int32.toUInt32 31)).toInt32 &&& (1431655765 : Int32))).toUInt32 >>> ((2 : Int32).toUInt32 &&& Int32.toUInt32 31)).toInt32 &&& (858993459 : Int32))).toUInt32 >>> ((4 : Int32).toUInt32 &&& Int32.toUInt32 31)).toInt32) &&& (252645135 : Int32)).toUInt32 >>> ((8 : Int32).toUInt32 &&& Int32.toUInt32 31)).toInt32).toUInt32 >>> ((16 : Int32).toUInt32 &&& Int32.toUInt32 31)).toInt32))] [.int (((((((a0 - ((a0.toUInt32 >>> ((1 : Int32).toUInt32 &&& Int32.toUInt32 31)).toInt32 &&& (1431655765 : Int32))) &&& (858993459 : Int32)) + (((a0 - ((a0.toUInt32 >>> ((1 : Int32).toUInt32 &&& Int32.toUInt32 31)).toInt32 &&& (1431655765 : Int32))).toUInt32 >>> ((2 : Int32).toUInt32 &&& Int32.toUInt32 31)).toInt32 &&& (858993459 : Int32))) + ((((a0 - ((a0.toUInt32 >>> ((1 : Int32).toUInt32 &&& Int32.toUInt32 31)).toInt32 &&& (1431655765 : Int32))) &&& (858993459 : Int32)) + (((a0 - ((a0.toUInt32 >>> ((1 : Int32).toUInt32 &&& Int32.toUInt32 31)).toInt32 &&& (1431655765 : Int32))).toUInt32 >>> ((2 : Int32).toUInt32 &&& Int32.toUInt32 31)).toInt32 &&& (858993459 : Int32))).toUInt32 >>> ((4 : Int32).toUInt32 &&& Int32.toUInt32 31)).toInt32) &&& (252645135 : Int32)) + ((((((a0 - ((a0.toUInt32 >>> ((1 : Int32).toUInt32 &&& Int32.toUInt32 31)).toInt32 &&& (1431655765 : Int32))) &&& (858993459 : Int32)) + (((a0 - ((a0.toUInt32 >>> ((1 : Int32).toUInt32 &&& Int32.toUInt32 31)).toInt32 &&& (1431655765 : Int32))).toUInt32 >>> ((2 : Int32).toUInt32 &&& Int32.toUInt32 31)).toInt32 &&& (858993459 : Int32))) + ((((a0 - ((a0.toUInt32 >>> ((1 : Int32).toUInt32 &&& Int32.toUInt32 31)).toInt32 &&& (1431655765 : Int32))) &&& (858993459 : Int32)) + (((a0 - ((a0.toUInt32 >>> ((1 : Int32).toUInt32 &&& Int32.toUInt32 31)).toInt32 &&& (1431655765 : Int32))).toUInt32 >>> ((2 : Int32).toUInt32 &&& Int32.toUInt32 31)).toInt32 &&& (858993459 : Int32))).toUInt32 >>> ((4 : Int32).toUInt32 &&& Int32.toUInt32 31)).toInt32) &&& (252645135 : Int32)).toUInt32 >>> ((8 : Int32).toUInt32 &&& Int32.toUInt32 31)).toInt32) + (((((((a0 - ((a0.toUInt32 >>> ((1 : Int32).toUInt32 &&& Int32.toUInt32 31)).toInt32 &&& (1431655765 : Int32))) &&& (858993459 : Int32)) + (((a0 - ((a0.toUInt32 >>> ((1 : Int32).toUInt32 &&& Int32.toUInt32 31)).toInt32 &&& (1431655765 : Int32))).toUInt32 >>> ((2 : Int32).toUInt32 &&& Int32.toUInt32 31)).toInt32 &&& (858993459 : Int32))) + ((((a0 - ((a0.toUInt32 >>> ((1 : Int32).toUInt32 &&& Int32.toUInt32 31)).toInt32 &&& (1431655765 : Int32))) &&& (858993459 : Int32)) + (((a0 - ((a0.toUInt32 >>> ((1 : Int32).toUInt32 &&& Int32.toUInt32 31)).toInt32 &&& (1431655765 : Int32))).toUInt32 >>> ((2 : Int32).toUInt32 &&& Int32.toUInt32 31)).toInt32 &&& (858993459 : Int32))).toUInt32 >>> ((4 : Int32).toUInt32 &&& Int32.toUInt32 31)).toInt32) &&& (252645135 : Int32)) + ((((((a0 - ((a0.toUInt32 >>> ((1 : Int32).toUInt32 &&& Int32.toUInt32 31)).toInt32 &&& (1431655765 : Int32))) &&& (858993459 : Int32)) + (((a0 - ((a0.toUInt32 >>> ((1 : Int32).toUInt32 &&& Int32.toUInt32 31)).toInt32 &&& (1431655765 : Int32))).toUInt32 >>> ((2 : Int32).toUInt32 &&& Int32.toUInt32 31)).toInt32 &&& (858993459 : Int32))) + ((((a0 - ((a0.toUInt32 >>> ((1 : Int32).toUInt32 &&& Int32.toUInt32 31)).toInt32 &&& (1431655765 : Int32))) &&& (858993459 : Int32)) + (((a0 - ((a0.toUInt32 >>> ((1 : Int32).toUInt32 &&& Int32.toUInt32 31)).toInt32 &&& (1431655765 : Int32))).toUInt32 >>> ((2 : Int32).toUInt32 &&& Int32.toUInt32 31)).toInt32 &&& (858993459 : Int32))).toUInt32 >>> ((4 : Int32).toUInt32 &&& Int32.toUInt32 31)).toInt32) &&& (252645135 : Int32)).toUInt32 >>> ((8 : Int32).toUInt32 &&& Int32.toUInt32 31)).toInt32).toUInt32 >>> ((16 : Int32).toUInt32 &&& Int32.toUInt32 31)).toInt32)] (fun n h => rfl) ?_
  refine hq_bip (63 : Int32) rfl (by decide) ?_
  refine hq_p 1 52 [some (.int (((((((a0 - ((a0.toUInt32 >>> ((1 : Int32).toUInt32 &&& Int32.toUInt32 31)).toInt32 &&& (1431655765 : Int32))) &&& (858993459 : Int32)) + (((a0 - ((a0.toUInt32 >>> ((1 : Int32).toUInt32 &&& Int32.toUInt32 31)).toInt32 &&& (1431655765 : Int32))).toUInt32 >>> ((2 : Int32).toUInt32 &&& Int32.toUInt32 31)).toInt32 &&& (858993459 : Int32))) + ((((a0 - ((a0.toUInt32 >>> ((1 : Int32).toUInt32 &&& Int32.toUInt32 31)).toInt32 &&& (1431655765 : Int32))) &&& (858993459 : Int32)) + (((a0 - ((a0.toUInt32 >>> ((1 : Int32).toUInt32 &&& Int32.toUInt32 31)).toInt32 &&& (1431655765 : Int32))).toUInt32 >>> ((2 : Int32).toUInt32 &&& Int32.toUInt32 31)).toInt32 &&& (858993459 : Int32))).toUInt32 >>> ((4 : Int32).toUInt32 &&& Int32.toUInt32 31)).toInt32) &&& (252645135 : Int32)) + ((((((a0 - ((a0.toUInt32 >>> ((1 : Int32).toUInt32 &&& Int32.toUInt32 31)).toInt32 &&& (1431655765 : Int32))) &&& (858993459 : Int32)) + (((a0 - ((a0.toUInt32 >>> ((1 : Int32).toUInt32 &&& Int32.toUInt32 31)).toInt32 &&& (1431655765 : Int32))).toUInt32 >>> ((2 : Int32).toUInt32 &&& Int32.toUInt32 31)).toInt32 &&& (858993459 : Int32))) + ((((a0 - ((a0.toUInt32 >>> ((1 : Int32).toUInt32 &&& Int32.toUInt32 31)).toInt32 &&& (1431655765 : Int32))) &&& (858993459 : Int32)) + (((a0 - ((a0.toUInt32 >>> ((1 : Int32).toUInt32 &&& Int32.toUInt32 31)).toInt32 &&& (1431655765 : Int32))).toUInt32 >>> ((2 : Int32).toUInt32 &&& Int32.toUInt32 31)).toInt32 &&& (858993459 : Int32))).toUInt32 >>> ((4 : Int32).toUInt32 &&& Int32.toUInt32 31)).toInt32) &&& (252645135 : Int32)).toUInt32 >>> ((8 : Int32).toUInt32 &&& Int32.toUInt32 31)).toInt32) + (((((((a0 - ((a0.toUInt32 >>> ((1 : Int32).toUInt32 &&& Int32.toUInt32 31)).toInt32 &&& (1431655765 : Int32))) &&& (858993459 : Int32)) + (((a0 - ((a0.toUInt32 >>> ((1 : Int32).toUInt32 &&& Int32.toUInt32 31)).toInt32 &&& (1431655765 : Int32))).toUInt32 >>> ((2 : Int32).toUInt32 &&& Int32.toUInt32 31)).toInt32 &&& (858993459 : Int32))) + ((((a0 - ((a0.toUInt32 >>> ((1 : Int32).toUInt32 &&& Int32.toUInt32 31)).toInt32 &&& (1431655765 : Int32))) &&& (858993459 : Int32)) + (((a0 - ((a0.toUInt32 >>> ((1 : Int32).toUInt32 &&& Int32.toUInt32 31)).toInt32 &&& (1431655765 : Int32))).toUInt32 >>> ((2 : Int32).toUInt32 &&& Int32.toUInt32 31)).toInt32 &&& (858993459 : Int32))).toUInt32 >>> ((4 : Int32).toUInt32 &&& Int32.toUInt32 31)).toInt32) &&& (252645135 : Int32)) + ((((((a0 - ((a0.toUInt32 >>> ((1 : Int32).toUInt32 &&& Int32.toUInt32 31)).toInt32 &&& (1431655765 : Int32))) &&& (858993459 : Int32)) + (((a0 - ((a0.toUInt32 >>> ((1 : Int32).toUInt32 &&& Int32.toUInt32 31)).toInt32 &&& (1431655765 : Int32))).toUInt32 >>> ((2 : Int32).toUInt32 &&& Int32.toUInt32 31)).toInt32 &&& (858993459 : Int32))) + ((((a0 - ((a0.toUInt32 >>> ((1 : Int32).toUInt32 &&& Int32.toUInt32 31)).toInt32 &&& (1431655765 : Int32))) &&& (858993459 : Int32)) + (((a0 - ((a0.toUInt32 >>> ((1 : Int32).toUInt32 &&& Int32.toUInt32 31)).toInt32 &&& (1431655765 : Int32))).toUInt32 >>> ((2 : Int32).toUInt32 &&& Int32.toUInt32 31)).toInt32 &&& (858993459 : Int32))).toUInt32 >>> ((4 : Int32).toUInt32 &&& Int32.toUInt32 31)).toInt32) &&& (252645135 : Int32)).toUInt32 >>> ((8 : Int32).toUInt32 &&& Int32.toUInt32 31)).toInt32).toUInt32 >>> ((16 : Int32).toUInt32 &&& Int32.toUInt32 31)).toInt32))] [.int ((((((((a0 - ((a0.toUInt32 >>> ((1 : Int32).toUInt32 &&& Int32.toUInt32 31)).toInt32 &&& (1431655765 : Int32))) &&& (858993459 : Int32)) + (((a0 - ((a0.toUInt32 >>> ((1 : Int32).toUInt32 &&& Int32.toUInt32 31)).toInt32 &&& (1431655765 : Int32))).toUInt32 >>> ((2 : Int32).toUInt32 &&& Int32.toUInt32 31)).toInt32 &&& (858993459 : Int32))) + ((((a0 - ((a0.toUInt32 >>> ((1 : Int32).toUInt32 &&& Int32.toUInt32 31)).toInt32 &&& (1431655765 : Int32))) &&& (858993459 : Int32)) + (((a0 - ((a0.toUInt32 >>> ((1 : Int32).toUInt32 &&& Int32.toUInt32 31)).toInt32 &&& (1431655765 : Int32))).toUInt32 >>> ((2 : Int32).toUInt32 &&& Int32.toUInt32 31)).toInt32 &&& (858993459 : Int32))).toUInt32 >>> ((4 : Int32).toUInt32 &&& Int32.toUInt32 31)).toInt32) &&& (252645135 : Int32)) + ((((((a0 - ((a0.toUInt32 >>> ((1 : Int32).toUInt32 &&& Int32.toUInt32 31)).toInt32 &&& (1431655765 : Int32))) &&& (858993459 : Int32)) + (((a0 - ((a0.toUInt32 >>> ((1 : Int32).toUInt32 &&& Int32.toUInt32 31)).toInt32 &&& (1431655765 : Int32))).toUInt32 >>> ((2 : Int32).toUInt32 &&& Int32.toUInt32 31)).toInt32 &&& (858993459 : Int32))) + ((((a0 - ((a0.toUInt32 >>> ((1 : Int32).toUInt32 &&& Int32.toUInt32 31)).toInt32 &&& (1431655765 : Int32))) &&& (858993459 : Int32)) + (((a0 - ((a0.toUInt32 >>> ((1 : Int32).toUInt32 &&& Int32.toUInt32 31)).toInt32 &&& (1431655765 : Int32))).toUInt32 >>> ((2 : Int32).toUInt32 &&& Int32.toUInt32 31)).toInt32 &&& (858993459 : Int32))).toUInt32 >>> ((4 : Int32).toUInt32 &&& Int32.toUInt32 31)).toInt32) &&& (252645135 : Int32)).toUInt32 >>> ((8 : Int32).toUInt32 &&& Int32.toUInt32 31)).toInt32) + (((((((a0 - ((a0.toUInt32 >>> ((1 : Int32).toUInt32 &&& Int32.toUInt32 31)).toInt32 &&& (1431655765 : Int32))) &&& (858993459 : Int32)) + (((a0 - ((a0.toUInt32 >>> ((1 : Int32).toUInt32 &&& Int32.toUInt32 31)).toInt32 &&& (1431655765 : Int32))).toUInt32 >>> ((2 : Int32).toUInt32 &&& Int32.toUInt32 31)).toInt32 &&& (858993459 : Int32))) + ((((a0 - ((a0.toUInt32 >>> ((1 : Int32).toUInt32 &&& Int32.toUInt32 31)).toInt32 &&& (1431655765 : Int32))) &&& (858993459 : Int32)) + (((a0 - ((a0.toUInt32 >>> ((1 : Int32).toUInt32 &&& Int32.toUInt32 31)).toInt32 &&& (1431655765 : Int32))).toUInt32 >>> ((2 : Int32).toUInt32 &&& Int32.toUInt32 31)).toInt32 &&& (858993459 : Int32))).toUInt32 >>> ((4 : Int32).toUInt32 &&& Int32.toUInt32 31)).toInt32) &&& (252645135 : Int32)) + ((((((a0 - ((a0.toUInt32 >>> ((1 : Int32).toUInt32 &&& Int32.toUInt32 31)).toInt32 &&& (1431655765 : Int32))) &&& (858993459 : Int32)) + (((a0 - ((a0.toUInt32 >>> ((1 : Int32).toUInt32 &&& Int32.toUInt32 31)).toInt32 &&& (1431655765 : Int32))).toUInt32 >>> ((2 : Int32).toUInt32 &&& Int32.toUInt32 31)).toInt32 &&& (858993459 : Int32))) + ((((a0 - ((a0.toUInt32 >>> ((1 : Int32).toUInt32 &&& Int32.toUInt32 31)).toInt32 &&& (1431655765 : Int32))) &&& (858993459 : Int32)) + (((a0 - ((a0.toUInt32 >>> ((1 : Int32).toUInt32 &&& Int32.toUInt32 31)).toInt32 &&& (1431655765 : Int32))).toUInt32 >>> ((2 : Int32).toUInt32 &&& Int32.toUInt32 31)).toInt32 &&& (858993459 : Int32))).toUInt32 >>> ((4 : Int32).toUInt32 &&& Int32.toUInt32 31)).toInt32) &&& (252645135 : Int32)).toUInt32 >>> ((8 : Int32).toUInt32 &&& Int32.toUInt32 31)).toInt32).toUInt32 >>> ((16 : Int32).toUInt32 &&& Int32.toUInt32 31)).toInt32) &&& (63 : Int32))] (fun n h => rfl) ?_
  have h := Option.some.inj h
  subst h
  exact ⟨1, rfl⟩
def f_X7_solveAround_L14_B (n : Nat) (q14 : Int32 → Int32 → Int32 → Int32 → Int32 → Int32 → Int32 → hq_S → Option (Int32 × hq_S)) (a1 : Int32) (a2 : Int32) (a3 : Int32) (a4 : Int32) (a5 : Int32) (a6 : Int32) (a7 : Int32) (s : hq_S) : Option (Int32 × hq_S) := if a7 < 0 then if mm_rfit (mm_ret mc_X7_solveAround) a5 = true then some (a5, s) else none else (hq_ld s 161 1024 (a1 ||| a7)).bind fun x2 => (if x2 = (-1 : Int32) then (f_J6_bitCount_0f7a4 n a7 s).bind fun y5 => if a3 < y5.1 then some (a5, y5.2) else (hq_st y5.2 161 1024 (a1 ||| a7) a4).bind fun s7 => some ((1 : Int32), s7) else some (a5, s)).bind fun z3 => (if a7 = 0 then some (-1 : Int32) else some ((a7 - (1 : Int32)) &&& a6)).bind fun z8 => q14 a1 a2 a3 a4 z3.1 a6 z8 z3.2
def f_X7_solveAround_L14 (n : Nat) (m : Nat) : Int32 → Int32 → Int32 → Int32 → Int32 → Int32 → Int32 → hq_S → Option (Int32 × hq_S) := Nat.rec (fun _ _ _ _ _ _ _ _ => none) (fun _ q => f_X7_solveAround_L14_B n q) m
theorem f_X7_solveAround_L14_Brun {xs : List Int32} {n d g : Nat} {a1 : Int32} {a2 : Int32} {a3 : Int32} {a4 : Int32} {a5 : Int32} {a6 : Int32} {a7 : Int32} {q14 : Int32 → Int32 → Int32 → Int32 → Int32 → Int32 → Int32 → hq_S → Option (Int32 × hq_S)} {s : hq_S} {y : (Int32 × hq_S)} (hd : 1 ≤ d) (e14 : ∀ (a1 : Int32) (a2 : Int32) (a3 : Int32) (a4 : Int32) (a5 : Int32) (a6 : Int32) (a7 : Int32) (s : hq_S), q14 a1 a2 a3 a4 a5 a6 a7 s = some y → hq_R (mm_O xs) d mc_X7_solveAround 14 [some (.ref 159), some (.int a1), some (.int a2), some (.int a3), some (.int a4), some (.int a5), some (.int a6), some (.int a7)] [] s g (some (.int y.1)) y.2) (h : f_X7_solveAround_L14_B n q14 a1 a2 a3 a4 a5 a6 a7 s = some y) : hq_R (mm_O xs) d mc_X7_solveAround 14 [some (.ref 159), some (.int a1), some (.int a2), some (.int a3), some (.int a4), some (.int a5), some (.int a6), some (.int a7)] [] s g (some (.int y.1)) y.2 := by
  unfold f_X7_solveAround_L14_B at h
  refine hq_p 1 16 [some (.ref 159), some (.int a1), some (.int a2), some (.int a3), some (.int a4), some (.int a5), some (.int a6), some (.int a7)] [.int a7] (fun n h => rfl) ?_
  by_cases c1 : a7 < 0
  · rw [if_pos c1] at h
    refine hq_izT rfl (hq_c_lt_T c1) ?_
    refine hq_p 1 78 [some (.ref 159), some (.int a1), some (.int a2), some (.int a3), some (.int a4), some (.int a5), some (.int a6), some (.int a7)] [.int a5] (fun n h => rfl) ?_
    have hr : mm_rfit (mm_ret mc_X7_solveAround) a5 = true := hq_ifT h
    rw [if_pos hr] at h
    have h := Option.some.inj h
    subst h
    exact hq_iret rfl hr
  · rw [if_neg c1] at h
    refine hq_izF rfl (hq_c_lt_F c1) ?_
    refine hq_p 1 20 [some (.ref 159), some (.int a1), some (.int a2), some (.int a3), some (.int a4), some (.int a5), some (.int a6), some (.int a7)] [.ref 159] (fun n h => rfl) ?_
    refine hq_gf (x := .ref 161) rfl rfl rfl rfl rfl ?_
    refine hq_p 3 27 [some (.ref 159), some (.int a1), some (.int a2), some (.int a3), some (.int a4), some (.int a5), some (.int a6), some (.int a7)] [.int (a1 ||| a7), .ref 161] (fun n h => rfl) ?_
    obtain ⟨x2, hx2, h⟩ := hq_bind h
    refine hq_iaload rfl rfl List.length_replicate hx2 ?_
    refine hq_icn (-1 : Int32) rfl (by decide) ?_
    obtain ⟨z3, hz3, h⟩ := hq_bind h
    suffices hT : hq_R (mm_O xs) d mc_X7_solveAround 55 [some (.ref 159), some (.int a1), some (.int a2), some (.int a3), some (.int a4), some (.int z3.1), some (.int a6), some (.int a7)] [] z3.2 g (some (.int y.1)) y.2 from by
      clear h
      have h := hz3
      by_cases c4 : x2 = (-1 : Int32)
      · rw [if_pos c4] at h
        refine hq_icF rfl (hq_c_ne_F c4) ?_
        refine hq_p 1 34 [some (.ref 159), some (.int a1), some (.int a2), some (.int a3), some (.int a4), some (.int a5), some (.int a6), some (.int a7)] [.int a7] (fun n h => rfl) ?_
        obtain ⟨y5, hy5, h⟩ := hq_bind h
        refine hq_ist rfl rfl rfl (Nat.le_trans (by decide) hd) rfl (f_J6_bitCount_0f7a4_run (Nat.le_sub_of_add_le (Nat.le_trans (by decide) hd)) hy5) rfl ?_
        refine hq_p 1 38 [some (.ref 159), some (.int a1), some (.int a2), some (.int a3), some (.int a4), some (.int a5), some (.int a6), some (.int a7)] [.int a3, .int y5.1] (fun n h => rfl) ?_
        by_cases c6 : a3 < y5.1
        · rw [if_pos c6] at h
          refine hq_icT rfl (hq_c_gt_T c6) ?_
          cases h
          exact hT
        · rw [if_neg c6] at h
          refine hq_icF rfl (hq_c_gt_F c6) ?_
          refine hq_p 1 42 [some (.ref 159), some (.int a1), some (.int a2), some (.int a3), some (.int a4), some (.int a5), some (.int a6), some (.int a7)] [.ref 159] (fun n h => rfl) ?_
          refine hq_gf (x := .ref 161) rfl rfl rfl rfl rfl ?_
          refine hq_p 4 51 [some (.ref 159), some (.int a1), some (.int a2), some (.int a3), some (.int a4), some (.int a5), some (.int a6), some (.int a7)] [.int a4, .int (a1 ||| a7), .ref 161] (fun n h => rfl) ?_
          obtain ⟨s7, hs7, h⟩ := hq_bind h
          refine hq_iastore rfl rfl List.length_replicate hs7 ?_
          refine hq_p 2 55 [some (.ref 159), some (.int a1), some (.int a2), some (.int a3), some (.int a4), some (.int (1 : Int32)), some (.int a6), some (.int a7)] [] (fun n h => rfl) ?_
          cases h
          exact hT
      · rw [if_neg c4] at h
        refine hq_icT rfl (hq_c_ne_T c4) ?_
        cases h
        exact hT
    refine hq_p 1 57 [some (.ref 159), some (.int a1), some (.int a2), some (.int a3), some (.int a4), some (.int z3.1), some (.int a6), some (.int a7)] [.int a7] (fun n h => rfl) ?_
    obtain ⟨z8, hz8, h⟩ := hq_bind h
    suffices hT : hq_R (mm_O xs) d mc_X7_solveAround 71 [some (.ref 159), some (.int a1), some (.int a2), some (.int a3), some (.int a4), some (.int z3.1), some (.int a6), some (.int a7)] [.int z8] z3.2 g (some (.int y.1)) y.2 from by
      clear h
      have h := hz8
      by_cases c9 : a7 = 0
      · rw [if_pos c9] at h
        refine hq_izF rfl (hq_c_ne_F c9) ?_
        refine hq_icn (-1 : Int32) rfl (by decide) ?_
        refine hq_p 1 71 [some (.ref 159), some (.int a1), some (.int a2), some (.int a3), some (.int a4), some (.int z3.1), some (.int a6), some (.int a7)] [.int (-1 : Int32)] (fun n h => rfl) ?_
        cases h
        exact hT
      · rw [if_neg c9] at h
        refine hq_izT rfl (hq_c_ne_T c9) ?_
        refine hq_p 5 71 [some (.ref 159), some (.int a1), some (.int a2), some (.int a3), some (.int a4), some (.int z3.1), some (.int a6), some (.int a7)] [.int ((a7 - (1 : Int32)) &&& a6)] (fun n h => rfl) ?_
        cases h
        exact hT
    refine hq_p 2 14 [some (.ref 159), some (.int a1), some (.int a2), some (.int a3), some (.int a4), some (.int z3.1), some (.int a6), some (.int z8)] [] (fun n h => rfl) ?_
    exact e14 a1 a2 a3 a4 z3.1 a6 z8 z3.2 h
theorem f_X7_solveAround_L14_run {xs : List Int32} {n m d g : Nat} {a1 : Int32} {a2 : Int32} {a3 : Int32} {a4 : Int32} {a5 : Int32} {a6 : Int32} {a7 : Int32} {s : hq_S} {y : (Int32 × hq_S)} (hd : 1 ≤ d) (h : f_X7_solveAround_L14 n m a1 a2 a3 a4 a5 a6 a7 s = some y) : hq_R (mm_O xs) d mc_X7_solveAround 14 [some (.ref 159), some (.int a1), some (.int a2), some (.int a3), some (.int a4), some (.int a5), some (.int a6), some (.int a7)] [] s g (some (.int y.1)) y.2 := by
  induction m generalizing a1 a2 a3 a4 a5 a6 a7 s with
  | zero => cases h
  | succ m ih => exact f_X7_solveAround_L14_Brun (n := n) hd (fun a1 a2 a3 a4 a5 a6 a7 s h => ih h) h
def f_X7_solveAround (n : Nat) (a1 : Int32) (a2 : Int32) (a3 : Int32) (a4 : Int32) (s : hq_S) : Option (Int32 × hq_S) := f_X7_solveAround_L14 n n a1 a2 a3 a4 (0 : Int32) (a2 &&& (a1 ^^^ (-1 : Int32))) (a2 &&& (a1 ^^^ (-1 : Int32))) s
theorem f_X7_solveAround_run {xs : List Int32} {n d g : Nat} {a1 : Int32} {a2 : Int32} {a3 : Int32} {a4 : Int32} {s : hq_S} {y : (Int32 × hq_S)} (hd : 1 ≤ d) (h : f_X7_solveAround n a1 a2 a3 a4 s = some y) : hq_R (mm_O xs) d mc_X7_solveAround 0 [some (.ref 159), some (.int a1), some (.int a2), some (.int a3), some (.int a4), none, none, none] [] s g (some (.int y.1)) y.2 := by
  unfold f_X7_solveAround at h
  refine hq_p 4 5 [some (.ref 159), some (.int a1), some (.int a2), some (.int a3), some (.int a4), some (.int (0 : Int32)), none, none] [.int a1, .int a2] (fun n h => rfl) ?_
  refine hq_icn (-1 : Int32) rfl (by decide) ?_
  refine hq_p 5 14 [some (.ref 159), some (.int a1), some (.int a2), some (.int a3), some (.int a4), some (.int (0 : Int32)), some (.int (a2 &&& (a1 ^^^ (-1 : Int32)))), some (.int (a2 &&& (a1 ^^^ (-1 : Int32))))] [] (fun n h => rfl) ?_
  exact f_X7_solveAround_L14_run hd h
