/-! ALL THAT BOTH HAVE IN COMMON BETWEEN CALLS -/
/-- town a of the reference is its town b but for some places -/
def hu_sl (sm : hq_S) (a b : Nat) (ex : Nat → Nat → Prop) : Prop := (∀ c, 196 ≤ c → c ≤ 198 → ¬ ex c 0 → hq_gi sm c a = hq_gi sm c b) ∧ (∀ i, i < 10 → ¬ ex 199 i → hq_gi sm 199 (10 * a + i) = hq_gi sm 199 (10 * b + i)) ∧ (∀ c i, 200 ≤ c → c ≤ 202 → i < 3 → ¬ ex c i → hq_gi sm c (3 * a + i) = hq_gi sm c (3 * b + i)) ∧ (∀ c i, 203 ≤ c → c ≤ 205 → i < 4 → ¬ ex c i → hq_gi sm c (4 * a + i) = hq_gi sm c (4 * b + i))
/-- what can be undone: the class's deed j, the reference's town a ahead of it, its town b behind it -/
def hu_deed (nc nl ng j a b : Nat) (sx sm : hq_S) : Prop :=
  (∃ g e : Nat, g < ng ∧ e < nc ∧ hq_gi sx 171 j = 0 ∧ hq_gi sx 172 j = Int32.ofNat g ∧ hq_gi sx 173 j = Int32.ofNat e ∧ hq_gi sm 200 (3 * a + g) = Int32.ofNat e ∧ hu_sl sm a b (fun c i => c = 200 ∧ i = g)) ∨
  (∃ w d : Nat, w < nl ∧ d < 1048576 ∧ hq_gi sx 171 j = 1 ∧ hq_gi sx 172 j = Int32.ofNat w ∧ hq_gi sm 198 a = Int32.ofNat (d ^^^ 2 ^ w) ∧ hq_gi sm 198 b = Int32.ofNat d ∧ hu_sl sm a b (fun c _ => c = 198)) ∨
  (∃ p e : Nat, p < nc ∧ e ≤ 9999 ∧ hq_gi sx 171 j = 2 ∧ hq_gi sx 172 j = Int32.ofNat p ∧ hq_gi sx 173 j = Int32.ofNat e ∧ hq_gi sm 199 (10 * a + p) = Int32.ofNat e ∧ hu_sl sm a b (fun c i => c = 199 ∧ i = p))
def hu_all (nc nl ng : Nat) (sx sm : hq_S) : Prop := ∃ n : Nat, n ≤ 20 ∧ hq_gi sx 170 0 = Int32.ofNat n ∧ hq_gi sm 174 48 = Int32.ofNat n ∧ ∀ j, j < n → hu_deed nc nl ng j (3 + j) (if j + 1 < n then 4 + j else 0) sx sm
def hr_img (nc ng nt : Nat) (sx sm : hq_S) : Prop := (hq_gi sx 0 7 = 0 ∧ hq_gi sm 174 47 = 0) ∨ (hq_gi sx 0 7 = 1 ∧ hq_gi sm 174 47 = 1 ∧ hn_N nc ng nt 85 2 sx sm)
/-- the lanes, and the class's streets by them -/
def hr_str (nc nl t bar : Nat) (fr to on : Nat → Nat) (sx sm : hq_S) : Prop := hl_X t nl nc fr to on sx ∧ hl_M nl nc fr to on sm ∧ hl_S 103 nc (ly_nx fr to on bar false nl) sx ∧ (∀ a b, a < nc → b < nc → hq_gi sx 105 (10 * a + b) = Int32.ofNat (bf_far (ly_nx fr to on bar false nl) nc a b)) ∧ hq_gi sm 198 0 = Int32.ofNat bar ∧ bar < 1048576
/-- the town, the night, the image, the facts, the deeds -/
def hr_T (nc nl ng nt t bar : Nat) (fr to on : Nat → Nat) (sx sm : hq_S) : Prop :=
  (hq_gr sx 0 2 = t ∧ (t = 2 ∨ t = 25) ∧ hq_gr sx 0 3 = 27 - t) ∧ hr_told nc nl ng nt t sx sm ∧ hr_str nc nl t bar fr to on sx sm ∧ hn_N nc ng nt 76 0 sx sm ∧ hr_facts nc nt sx sm ∧ hr_img nc ng nt sx sm ∧ hu_all nc nl ng sx sm
def hR (HC : hq_S → Prop) (sx sm : hq_S) : Prop := hr_tape sx sm ∧ hr_flt sx sm ∧ hr_idle sm ∧ (∀ i, i < 22 → hq_gi sx 50 i = hq_gi hq_s0 50 i) ∧ HC sx ∧ ∃ (nc nl ng nt t bar : Nat) (fr to on : Nat → Nat), hr_T nc nl ng nt t bar fr to on sx sm
/-- what is held of the chase hangs on its own cells alone -/
def hc_loc (HC : hq_S → Prop) : Prop := ∀ s s' : hq_S, (∀ c i, 152 ≤ c → c ≤ 158 → hq_gi s' c i = hq_gi s c i) → HC s → HC s'
def hd_X : List (Nat × Option Nat) := [(0, none), (1, none), (2, none), (3, none), (4, none), (5, none), (6, none), (7, none), (8, none), (9, none), (10, none), (11, none), (12, none), (13, none), (14, none), (16, none), (17, none), (18, none), (19, none), (20, none), (21, none), (22, none), (23, none), (24, none), (25, none), (26, none), (27, none), (28, none), (29, none), (30, none), (31, none), (32, none), (33, none), (34, none), (35, none), (36, none), (37, none), (39, none), (40, none), (41, none), (42, none), (43, none), (44, none), (45, none), (46, none), (47, none), (48, some 7), (48, some 8), (50, none), (76, none), (77, none), (78, none), (79, none), (80, none), (81, none), (82, none), (83, none), (84, none), (85, none), (86, none), (87, none), (88, none), (89, none), (90, none), (91, none), (92, none), (93, none), (103, none), (104, none), (105, none), (152, none), (153, none), (154, none), (155, none), (156, none), (157, none), (158, none), (163, some 0), (163, some 1), (164, none), (165, none), (166, none), (167, none), (168, none), (170, none), (171, none), (172, none), (173, none)]
def hd_M : List (Nat × Option Nat) := [(174, some 2), (174, some 30), (174, some 31), (174, some 47), (174, some 48), (174, some 49), (174, some 50), (174, some 53), (174, some 74), (174, some 75), (175, none), (176, none), (177, none), (178, none), (179, none), (180, none), (181, none), (182, none), (183, none), (184, none), (185, none), (186, none), (187, none), (188, none), (189, none), (190, none), (191, none), (192, none), (193, none), (212, none), (224, none), (225, none), (226, none), (227, none), (228, none)]
/-- one list of places within another -/
def hd_in (D E : List (Nat × Option Nat)) : Bool := D.all fun w => match w.2 with
  | none => hq_inA E w.1
  | some b => hq_ind E w.1 b
theorem hd_sub {D E : List (Nat × Option Nat)} (h : hd_in D E = true) (k i : Nat) (hk : hq_ind D k i = true) : hq_ind E k i = true := by
  obtain ⟨w, hw, h2⟩ := List.any_eq_true.mp hk
  have h1 := List.all_eq_true.mp h w hw
  obtain ⟨h3, h4⟩ := Bool.and_eq_true_iff.mp h2
  have h3 := Nat.eq_of_beq_eq_true h3
  cases hw2 : w.2 with
  | none =>
    rw [hw2] at h1
    rw [← h3]
    exact hq_inA_spec h1 i
  | some b =>
    rw [hw2] at h1 h4
    have h4 : b = i := Nat.eq_of_beq_eq_true h4
    rw [← h3, ← h4]
    exact h1
theorem hd_lt {D : List (Nat × Option Nat)} (h : (D.all fun w => Nat.blt w.1 174) = true) (k i : Nat) (hk : hq_ind D k i = true) : k < 174 := by
  obtain ⟨w, hw, h2⟩ := List.any_eq_true.mp hk
  have h1 := List.all_eq_true.mp h w hw
  obtain ⟨h3, -⟩ := Bool.and_eq_true_iff.mp h2
  have h3 := Nat.eq_of_beq_eq_true h3
  rw [Nat.blt_eq] at h1
  omega
theorem hd_ge {D : List (Nat × Option Nat)} (h : (D.all fun w => Nat.ble 174 w.1) = true) (k i : Nat) (hk : hq_ind D k i = true) : 174 ≤ k := by
  obtain ⟨w, hw, h2⟩ := List.any_eq_true.mp hk
  have h1 := List.all_eq_true.mp h w hw
  obtain ⟨h3, -⟩ := Bool.and_eq_true_iff.mp h2
  have h3 := Nat.eq_of_beq_eq_true h3
  rw [Nat.ble_eq] at h1
  omega
theorem hd_rng : ((List.range 18).all fun j => hq_inA hd_X (76 + j)) = true ∧ ((List.range 4).all fun j => hq_inA hd_X (170 + j)) = true ∧ ((List.range 7).all fun j => hq_inA hd_X (152 + j)) = true := by decide
theorem hd_rng1 {c : Nat} (h1 : 76 ≤ c) (h2 : c ≤ 93) : hq_inA hd_X c = true := by
  have := List.all_eq_true.mp hd_rng.1 (c - 76) (List.mem_range.mpr (by omega))
  rw [show 76 + (c - 76) = c by omega] at this
  exact this
theorem hd_rng2 {c : Nat} (h1 : 170 ≤ c) (h2 : c ≤ 173) : hq_inA hd_X c = true := by
  have := List.all_eq_true.mp hd_rng.2.1 (c - 170) (List.mem_range.mpr (by omega))
  rw [show 170 + (c - 170) = c by omega] at this
  exact this
theorem hd_rng3 {c : Nat} (h1 : 152 ≤ c) (h2 : c ≤ 158) : hq_inA hd_X c = true := by
  have := List.all_eq_true.mp hd_rng.2.2 (c - 152) (List.mem_range.mpr (by omega))
  rw [show 152 + (c - 152) = c by omega] at this
  exact this
section
variable {nc nl ng nt t k l bar : Nat} {fr to on : Nat → Nat} {sx sx' sm sm' : hq_S}
theorem hn_N_k (hnc : nc ≤ 10) (hng : ng ≤ 3) (hnt : nt ≤ 4) (ex : ∀ c i, k ≤ c → c ≤ k + 8 → hq_gi sx' c i = hq_gi sx c i) (ej : hq_gj sx' k 1 = hq_gj sx k 1) (em : ∀ c i, hm_sl l c i → hq_gi sm' c i = hq_gi sm c i) (e5 : ∀ i, hq_gi sm' 185 i = hq_gi sm 185 i) (eb : ∀ i, i < nt → hn_bold sm' i = hn_bold sm i) (h : hn_N nc ng nt k l sx sm) : hn_N nc ng nt k l sx' sm' := by
  obtain ⟨h1, h2, h3, h4, h5, h6, h7, h8⟩ := h
  refine ⟨?_, ?_, ?_, fun i hi => ?_, fun i hi hi' => ?_, fun i hi => ?_, fun i hi => ?_, fun i hi hi' => ?_⟩
  · rw [ex _ _ (by omega) (by omega), em _ _ (by unfold hm_sl; omega)]; exact h1
  · rw [ej, em _ _ (by unfold hm_sl; omega)]; exact h2
  · rw [ex _ _ (by omega) (by omega), em _ _ (by unfold hm_sl; omega)]; exact h3
  · rw [ex _ _ (by omega) (by omega), em _ _ (by unfold hm_sl; omega)]; exact h4 i hi
  · rw [em _ _ (by unfold hm_sl; omega)]; exact h5 i hi hi'
  · rw [ex (k + 2) _ (by omega) (by omega), ex (k + 3) _ (by omega) (by omega), ex (k + 4) _ (by omega) (by omega), em 200 _ (by unfold hm_sl; omega), em 201 _ (by unfold hm_sl; omega), em 202 _ (by unfold hm_sl; omega), e5]; exact h6 i hi
  · rw [ex (k + 5) _ (by omega) (by omega), ex (k + 6) _ (by omega) (by omega), ex (k + 7) _ (by omega) (by omega), ex (k + 8) _ (by omega) (by omega), em 203 _ (by unfold hm_sl; omega), em 204 _ (by unfold hm_sl; omega), em 205 _ (by unfold hm_sl; omega), eb i hi]; exact h7 i hi
  · rw [em _ _ (by unfold hm_sl; omega)]; exact h8 i hi hi'
theorem hu_sl_k {a b : Nat} {ex : Nat → Nat → Prop} (ha : ¬ a = 1) (hb : ¬ b = 1) (ho : hm_o 1 sm sm') (h : hu_sl sm a b ex) : hu_sl sm' a b ex := by
  obtain ⟨h1, h2, h3, h4⟩ := h
  refine ⟨fun c c1 c2 c3 => ?_, fun i hi c3 => ?_, fun c i c1 c2 hi c3 => ?_, fun c i c1 c2 hi c3 => ?_⟩
  · rw [ho c a (by omega) (by omega) (by unfold hm_sl; omega), ho c b (by omega) (by omega) (by unfold hm_sl; omega)]; exact h1 c c1 c2 c3
  · rw [ho 199 (10 * a + i) (by omega) (by omega) (by unfold hm_sl; omega), ho 199 (10 * b + i) (by omega) (by omega) (by unfold hm_sl; omega)]; exact h2 i hi c3
  · rw [ho c (3 * a + i) (by omega) (by omega) (by unfold hm_sl; omega), ho c (3 * b + i) (by omega) (by omega) (by unfold hm_sl; omega)]; exact h3 c i c1 c2 hi c3
  · rw [ho c (4 * a + i) (by omega) (by omega) (by unfold hm_sl; omega), ho c (4 * b + i) (by omega) (by omega) (by unfold hm_sl; omega)]; exact h4 c i c1 c2 hi c3
theorem hu_all_k (hng : ng ≤ 3) (hnc : nc ≤ 10) (ex : ∀ c i, 170 ≤ c → c ≤ 173 → hq_gi sx' c i = hq_gi sx c i) (e4 : hq_gi sm' 174 48 = hq_gi sm 174 48) (ho : hm_o 1 sm sm') (h : hu_all nc nl ng sx sm) : hu_all nc nl ng sx' sm' := by
  obtain ⟨n, hn, h1, h2, h3⟩ := h
  refine ⟨n, hn, by rw [ex _ _ (by omega) (by omega)]; exact h1, by rw [e4]; exact h2, fun j hj => ?_⟩
  have hb : ¬ (if j + 1 < n then 4 + j else 0) = 1 := by split <;> omega
  rcases h3 j hj with ⟨g, e, q1, q2, q3, q4, q5, q6, q7⟩ | ⟨w, d, q1, q2, q3, q4, q5, q6, q7⟩ | ⟨p, e, q1, q2, q3, q4, q5, q6, q7⟩
  · exact Or.inl ⟨g, e, q1, q2, by rw [ex _ _ (by omega) (by omega)]; exact q3, by rw [ex _ _ (by omega) (by omega)]; exact q4, by rw [ex _ _ (by omega) (by omega)]; exact q5, by rw [ho _ _ (by omega) (by omega) (by unfold hm_sl; omega)]; exact q6, hu_sl_k (by omega) hb ho q7⟩
  · exact Or.inr (Or.inl ⟨w, d, q1, q2, by rw [ex _ _ (by omega) (by omega)]; exact q3, by rw [ex _ _ (by omega) (by omega)]; exact q4, by rw [ho _ _ (by omega) (by omega) (by unfold hm_sl; omega)]; exact q5, by rw [ho _ _ (by omega) (by omega) (by unfold hm_sl; omega)]; exact q6, hu_sl_k (by omega) hb ho q7⟩)
  · exact Or.inr (Or.inr ⟨p, e, q1, q2, by rw [ex _ _ (by omega) (by omega)]; exact q3, by rw [ex _ _ (by omega) (by omega)]; exact q4, by rw [ex _ _ (by omega) (by omega)]; exact q5, by rw [ho _ _ (by omega) (by omega) (by unfold hm_sl; omega)]; exact q6, hu_sl_k (by omega) hb ho q7⟩)
theorem hn_bold_i (h : hr_idle sm) {i : Nat} (hi : i < 4) : hn_bold sm i = hq_gi sm 189 i := by
  unfold hn_bold
  rw [h.2.2.1, if_neg (fun q => nn_nlt0 (a := i) (by omega) (by rw [q]; decide))]
theorem hr_T_k (I : hr_idle sm) (hx : hq_kp hd_X sx sx') (hm : hq_kp hd_M sm sm') (ho : hm_o 1 sm sm') (h : hr_T nc nl ng nt t bar fr to on sx sm) : hr_T nc nl ng nt t bar fr to on sx' sm' := by
  obtain ⟨⟨t1, t2, t3⟩, T, ⟨X, M, S, F, B, Bl⟩, W, Fa, Im, U⟩ := h
  have I' : hr_idle sm' := hr_idle_kp (fun k i hk => hm k i (by
    revert hk
    exact hd_sub (D := hd_idle_m) (E := hd_M) (by decide) k i)) I
  have xA : ∀ c i, hq_inA hd_X c = true → hq_gi sx' c i = hq_gi sx c i := fun c i h => (hx c i (hq_inA_spec h i)).1
  have mA : ∀ c i, hq_inA hd_M c = true → hq_gi sm' c i = hq_gi sm c i := fun c i h => (hm c i (hq_inA_spec h i)).1
  have b := T.1
  have eb : ∀ i, i < nt → hn_bold sm' i = hn_bold sm i := fun i hi => by
    rw [hn_bold_i I' (by omega), hn_bold_i I (by omega), mA 189 i (by decide)]
  have xr : ∀ c i, 76 ≤ c → c ≤ 93 → hq_gi sx' c i = hq_gi sx c i := fun c i h1 h2 => xA c i (hd_rng1 h1 h2)
  refine ⟨⟨?_, t2, ?_⟩, ?_, ⟨?_, ?_, ?_, ?_, ?_, Bl⟩, ?_, ?_, ?_, ?_⟩
  · rw [(hx 0 2 (by decide)).2.2]; exact t1
  · rw [(hx 0 3 (by decide)).2.2]; exact t3
  · exact hr_told_kp t2 (fun k i hk => hx k i (hd_sub (D := hd_told_x) (E := hd_X) (by decide) k i hk)) (fun k i hk => hm k i (hd_sub (D := hd_told_m) (E := hd_M) (by decide) k i hk)) T
  · unfold hl_X at X ⊢
    rcases t2 with rfl | rfl <;> simp (disch := decide) only [xA] <;> exact X
  · unfold hl_M at M ⊢
    simp (disch := decide) only [mA]
    exact M
  · unfold hl_S at S ⊢
    simp (disch := decide) only [xA]
    exact S
  · simp (disch := decide) only [xA]
    exact F
  · rw [ho 198 0 (by omega) (by omega) (by unfold hm_sl; omega)]; exact B
  · exact hn_N_k (by omega) (by omega) (by omega) (fun c i h1 h2 => xr c i (by omega) (by omega)) (hx 76 1 (by decide)).2.1 (fun c i h => by
      unfold hm_sl at h
      exact ho c i (by omega) (by omega) (by unfold hm_sl; omega)) (fun i => mA 185 i (by decide)) eb W
  · exact hr_facts_kp (fun k i hk => hx k i (hd_sub (D := hd_facts_x) (E := hd_X) (by decide) k i hk)) (fun k i hk => hm k i (hd_sub (D := hd_facts_m) (E := hd_M) (by decide) k i hk)) Fa
  · unfold hr_img at Im ⊢
    rw [xA 0 7 (by decide), (hm 174 47 (by decide)).1]
    rcases Im with h | ⟨h1, h2, h3⟩
    · exact Or.inl h
    · exact Or.inr ⟨h1, h2, hn_N_k (by omega) (by omega) (by omega) (fun c i h1 h2 => xr c i (by omega) (by omega)) (hx 85 1 (by decide)).2.1 (fun c i h => by
        unfold hm_sl at h
        exact ho c i (by omega) (by omega) (by unfold hm_sl; omega)) (fun i => mA 185 i (by decide)) eb h3⟩
  · exact hu_all_k (by omega) (by omega) (fun c i h1 h2 => xA c i (hd_rng2 h1 h2)) (hm 174 48 (by decide)).1 ho U
theorem hR_k {HC : hq_S → Prop} (hc : hc_loc HC) (hx : hq_kp hd_X sx sx') (hm : hq_kp hd_M sm sm') (ho : hm_o 1 sm sm') (h : hR HC sx sm) : hR HC sx' sm' := by
  obtain ⟨h1, h2, h3, h4, h5, nc, nl, ng, nt, t, bar, fr, to, on, h6⟩ := h
  refine ⟨?_, ?_, ?_, fun i hi => ?_, ?_, nc, nl, ng, nt, t, bar, fr, to, on, hr_T_k h3 hx hm ho h6⟩
  · exact hr_tape_kp (fun k i hk => hx k i (hd_sub (D := hd_tape_x) (E := hd_X) (by decide) k i hk)) (fun k i hk => hm k i (hd_sub (D := hd_tape_m) (E := hd_M) (by decide) k i hk)) h1
  · exact hr_flt_kp (fun k i hk => hx k i (hd_sub (D := hd_flt_x) (E := hd_X) (by decide) k i hk)) (fun k i hk => hm k i (hd_sub (D := hd_flt_m) (E := hd_M) (by decide) k i hk)) h2
  · exact hr_idle_kp (fun k i hk => hm k i (hd_sub (D := hd_idle_m) (E := hd_M) (by decide) k i hk)) h3
  · rw [(hx 50 i (hq_inA_spec (by decide) i)).1]; exact h4 i hi
  · exact hc sx sx' (fun c i h1 h2 => (hx c i (hq_inA_spec (hd_rng3 h1 h2) i)).1) h5
theorem hR_loc {HC : hq_S → Prop} (hc : hc_loc HC) : hq_Loc (hR HC) := fun sx sx' sm sm' hx hm h => hR_k hc (fun k i hk => hx k (hd_lt (by decide) k i hk) i) (fun k i hk => hm k (hd_ge (by decide) k i hk) i) (fun c i h1 h2 _ => (hm c (by omega) i).1) h
end
