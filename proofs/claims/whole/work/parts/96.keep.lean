/-! KEPT: what a function doesn't write stays related -/
def hq_ind (D : List (Nat × Option Nat)) (k i : Nat) : Bool := D.any fun w => Nat.beq w.1 k && (match w.2 with
  | none => true
  | some b => Nat.beq b i)
def hq_dis (W D : List (Nat × Option Nat)) : Bool := W.all fun w => D.all fun e => !(Nat.beq w.1 e.1 && (match w.2, e.2 with
  | some a, some b => Nat.beq a b
  | _, _ => true))
theorem hq_dis_spec {W D : List (Nat × Option Nat)} (h : hq_dis W D = true) {k i : Nat} (hi : hq_ind D k i = true) : hq_nw W k i = true := by
  unfold hq_nw
  refine List.all_eq_true.mpr fun w hw => ?_
  obtain ⟨e, he, h2⟩ := List.any_eq_true.mp hi
  have h1 := List.all_eq_true.mp (List.all_eq_true.mp h w hw) e he
  obtain ⟨h3, h4⟩ := Bool.and_eq_true_iff.mp h2
  have h3 := Nat.eq_of_beq_eq_true h3
  rw [h3] at h1
  cases hb : Nat.beq w.1 k with
  | false => rfl
  | true =>
    rw [hb] at h1
    cases hw2 : w.2 with
    | none => rw [hw2] at h1; cases he2 : e.2 <;> (rw [he2] at h1; cases h1)
    | some a =>
      rw [hw2] at h1
      cases he2 : e.2 with
      | none => rw [he2] at h1; cases h1
      | some b =>
        rw [he2] at h1 h4
        have h4 : b = i := Nat.eq_of_beq_eq_true h4
        subst h4
        exact h1
/-- the cells of D are alike -/
def hq_kp (D : List (Nat × Option Nat)) (s t : hq_S) : Prop := ∀ k i, hq_ind D k i = true → hq_gi t k i = hq_gi s k i ∧ hq_gj t k i = hq_gj s k i ∧ hq_gr t k i = hq_gr s k i
theorem hq_fc.kp {W D : List (Nat × Option Nat)} {s t : hq_S} (h : hq_fc W s t) (hd : hq_dis W D = true) : hq_kp D s t := fun k i hi => h k i (hq_dis_spec hd hi)
theorem hq_kp_rf (D : List (Nat × Option Nat)) (s : hq_S) : hq_kp D s s := fun _ _ _ => ⟨rfl, rfl, rfl⟩
def hd_flt_x : List (Nat × Option Nat) := [(48, some 7), (48, some 8)]
def hd_flt_m : List (Nat × Option Nat) := [(174, some 30), (174, some 31)]
def hd_tape_x : List (Nat × Option Nat) := [(0, some 1), (1, none)]
def hd_tape_m : List (Nat × Option Nat) := [(174, some 2), (175, none)]
def hd_told_x : List (Nat × Option Nat) := [(2, some 0), (2, some 3), (2, some 6), (2, some 7), (2, some 11), (2, some 13), (3, none), (4, none), (5, none), (6, none), (7, none), (8, none), (9, none), (10, none), (11, some 0), (12, none), (13, none), (14, none), (16, some 0), (16, some 1), (16, some 2), (17, none), (18, none), (19, none), (20, none), (21, none), (22, none), (23, none), (24, none), (25, some 0), (25, some 3), (25, some 6), (25, some 7), (25, some 11), (25, some 13), (26, none), (27, none), (28, none), (29, none), (30, none), (31, none), (32, none), (33, none), (34, some 0), (35, none), (36, none), (37, none), (39, some 0), (39, some 1), (39, some 2), (40, none), (41, none), (42, none), (43, none), (44, none), (45, none), (46, none), (47, none)]
def hd_told_m : List (Nat × Option Nat) := [(176, none), (177, none), (178, none), (179, none), (180, none), (181, none), (182, none), (183, none), (184, none), (185, none), (186, none), (187, none), (188, none), (189, none), (190, none), (191, none), (192, none), (193, none)]
def hd_facts_x : List (Nat × Option Nat) := [(163, some 0), (163, some 1), (164, none), (165, none), (166, none), (167, none), (168, none)]
def hd_facts_m : List (Nat × Option Nat) := [(174, some 74), (174, some 75), (224, none), (225, none), (226, none), (227, none), (228, none)]
def hd_idle_m : List (Nat × Option Nat) := [(174, some 49), (174, some 50), (174, some 53), (212, none)]
def hd_night_76 : List (Nat × Option Nat) := [(76, some 0), (76, some 1), (76, some 2), (77, none), (78, none), (79, none), (80, none), (81, none), (82, none), (83, none), (84, none)]
def hd_night_85 : List (Nat × Option Nat) := [(85, some 0), (85, some 1), (85, some 2), (86, none), (87, none), (88, none), (89, none), (90, none), (91, none), (92, none), (93, none)]
def hd_night_94 : List (Nat × Option Nat) := [(94, some 0), (94, some 1), (94, some 2), (95, none), (96, none), (97, none), (98, none), (99, none), (100, none), (101, none), (102, none)]
/-- D has the whole array -/
def hq_inA (D : List (Nat × Option Nat)) (k : Nat) : Bool := D.any fun w => Nat.beq w.1 k && (match w.2 with
  | none => true
  | some _ => false)
theorem hq_inA_spec {D : List (Nat × Option Nat)} {k : Nat} (h : hq_inA D k = true) (i : Nat) : hq_ind D k i = true := by
  obtain ⟨w, hw, h2⟩ := List.any_eq_true.mp h
  refine List.any_eq_true.mpr ⟨w, hw, ?_⟩
  cases hw2 : w.2 with
  | none => rw [hw2] at h2; exact h2
  | some b => rw [hw2] at h2; rw [Bool.and_false] at h2; cases h2
section
variable {sx sx' sm sm' : hq_S} {nc nl ng nt t k l : Nat}
theorem hr_flt_kp (hx : hq_kp hd_flt_x sx sx') (hm : hq_kp hd_flt_m sm sm') (h : hr_flt sx sm) : hr_flt sx' sm' := by
  have ex : ∀ k i, hq_ind hd_flt_x k i = true → hq_gi sx' k i = hq_gi sx k i := fun k i hk => (hx k i hk).1
  have exA : ∀ k i, hq_inA hd_flt_x k = true → hq_gi sx' k i = hq_gi sx k i := fun k i hk => (hx k i (hq_inA_spec hk i)).1
  have em : ∀ k i, hq_ind hd_flt_m k i = true → hq_gi sm' k i = hq_gi sm k i := fun k i hk => (hm k i hk).1
  have emA : ∀ k i, hq_inA hd_flt_m k = true → hq_gi sm' k i = hq_gi sm k i := fun k i hk => (hm k i (hq_inA_spec hk i)).1
  unfold hr_flt at h ⊢
  simp (disch := decide) only [ex, exA, em, emA]
  exact h
theorem hr_tape_kp (hx : hq_kp hd_tape_x sx sx') (hm : hq_kp hd_tape_m sm sm') (h : hr_tape sx sm) : hr_tape sx' sm' := by
  have ex : ∀ k i, hq_ind hd_tape_x k i = true → hq_gi sx' k i = hq_gi sx k i := fun k i hk => (hx k i hk).1
  have exA : ∀ k i, hq_inA hd_tape_x k = true → hq_gi sx' k i = hq_gi sx k i := fun k i hk => (hx k i (hq_inA_spec hk i)).1
  have em : ∀ k i, hq_ind hd_tape_m k i = true → hq_gi sm' k i = hq_gi sm k i := fun k i hk => (hm k i hk).1
  have emA : ∀ k i, hq_inA hd_tape_m k = true → hq_gi sm' k i = hq_gi sm k i := fun k i hk => (hm k i (hq_inA_spec hk i)).1
  unfold hr_tape at h ⊢
  simp (disch := decide) only [ex, exA, em, emA]
  exact h
theorem hr_told_kp (ht : t = 2 ∨ t = 25) (hx : hq_kp hd_told_x sx sx') (hm : hq_kp hd_told_m sm sm') (h : hr_told nc nl ng nt t sx sm) : hr_told nc nl ng nt t sx' sm' := by
  have ex : ∀ k i, hq_ind hd_told_x k i = true → hq_gi sx' k i = hq_gi sx k i := fun k i hk => (hx k i hk).1
  have exA : ∀ k i, hq_inA hd_told_x k = true → hq_gi sx' k i = hq_gi sx k i := fun k i hk => (hx k i (hq_inA_spec hk i)).1
  have ej : ∀ k i, hq_ind hd_told_x k i = true → hq_gj sx' k i = hq_gj sx k i := fun k i hk => (hx k i hk).2.1
  have ejA : ∀ k i, hq_inA hd_told_x k = true → hq_gj sx' k i = hq_gj sx k i := fun k i hk => (hx k i (hq_inA_spec hk i)).2.1
  have em : ∀ k i, hq_ind hd_told_m k i = true → hq_gi sm' k i = hq_gi sm k i := fun k i hk => (hm k i hk).1
  have emA : ∀ k i, hq_inA hd_told_m k = true → hq_gi sm' k i = hq_gi sm k i := fun k i hk => (hm k i (hq_inA_spec hk i)).1
  rcases ht with rfl | rfl
  · unfold hr_told hr_rule at h ⊢
    simp (disch := decide) only [ex, exA, ej, ejA, em, emA]
    exact h
  · unfold hr_told hr_rule at h ⊢
    simp (disch := decide) only [ex, exA, ej, ejA, em, emA]
    exact h
theorem hr_facts_kp (hx : hq_kp hd_facts_x sx sx') (hm : hq_kp hd_facts_m sm sm') (h : hr_facts nc nt sx sm) : hr_facts nc nt sx' sm' := by
  have ex : ∀ k i, hq_ind hd_facts_x k i = true → hq_gi sx' k i = hq_gi sx k i := fun k i hk => (hx k i hk).1
  have exA : ∀ k i, hq_inA hd_facts_x k = true → hq_gi sx' k i = hq_gi sx k i := fun k i hk => (hx k i (hq_inA_spec hk i)).1
  have em : ∀ k i, hq_ind hd_facts_m k i = true → hq_gi sm' k i = hq_gi sm k i := fun k i hk => (hm k i hk).1
  have emA : ∀ k i, hq_inA hd_facts_m k = true → hq_gi sm' k i = hq_gi sm k i := fun k i hk => (hm k i (hq_inA_spec hk i)).1
  unfold hr_facts at h ⊢
  simp (disch := decide) only [ex, exA, em, emA]
  exact h
theorem hr_idle_kp (hm : hq_kp hd_idle_m sm sm') (h : hr_idle sm) : hr_idle sm' := by
  have em : ∀ k i, hq_ind hd_idle_m k i = true → hq_gi sm' k i = hq_gi sm k i := fun k i hk => (hm k i hk).1
  have emA : ∀ k i, hq_inA hd_idle_m k = true → hq_gi sm' k i = hq_gi sm k i := fun k i hk => (hm k i (hq_inA_spec hk i)).1
  unfold hr_idle at h ⊢
  simp (disch := decide) only [em, emA]
  exact h
end
