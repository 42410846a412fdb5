/-! WHAT STAYS OF THE CHASE BETWEEN CALLS -/
def hd_Xc : List (Nat × Option Nat) := [(0, none), (1, none), (2, none), (3, none), (4, none), (5, none), (6, none), (7, none), (8, none), (9, none), (10, none), (11, none), (12, none), (13, none), (14, none), (16, none), (17, none), (18, none), (19, none), (20, none), (21, none), (22, none), (23, none), (24, none), (25, none), (26, none), (27, none), (28, none), (29, none), (30, none), (31, none), (32, none), (33, none), (34, none), (35, none), (36, none), (37, none), (39, none), (40, none), (41, none), (42, none), (43, none), (44, none), (45, none), (46, none), (47, none), (48, some 7), (48, some 8), (50, none), (76, none), (77, none), (78, none), (79, none), (80, none), (81, none), (82, none), (83, none), (84, none), (85, none), (86, none), (87, none), (88, none), (89, none), (90, none), (91, none), (92, none), (93, none), (103, none), (104, none), (105, none), (163, some 0), (163, some 1), (164, none), (165, none), (166, none), (167, none), (168, none), (170, none), (171, none), (172, none), (173, none)]
theorem hd_rngc : ((List.range 18).all fun j => hq_inA hd_Xc (76 + j)) = true ∧ ((List.range 4).all fun j => hq_inA hd_Xc (170 + j)) = true := by decide
theorem hd_rngc1 {c : Nat} (h1 : 76 ≤ c) (h2 : c ≤ 93) : hq_inA hd_Xc c = true := by
  have := List.all_eq_true.mp hd_rngc.1 (c - 76) (List.mem_range.mpr (by omega))
  rw [show 76 + (c - 76) = c by omega] at this
  exact this
theorem hd_rngc2 {c : Nat} (h1 : 170 ≤ c) (h2 : c ≤ 173) : hq_inA hd_Xc c = true := by
  have := List.all_eq_true.mp hd_rngc.2 (c - 170) (List.mem_range.mpr (by omega))
  rw [show 170 + (c - 170) = c by omega] at this
  exact this
section
variable {nc nl ng nt t k l bar : Nat} {fr to on : Nat → Nat} {sx sx' sm sm' : hq_S}
theorem hr_T_kc (I : hr_idle sm) (hx : hq_kp hd_Xc sx sx') (hm : hq_kp hd_M sm sm') (ho : hm_o 1 sm sm') (h : hr_T nc nl ng nt t bar fr to on sx sm) : hr_T nc nl ng nt t bar fr to on sx' sm' := by
  obtain ⟨⟨t1, t2, t3⟩, T, ⟨X, M, S, F, B, Bl⟩, W, Fa, Im, U⟩ := h
  have I' : hr_idle sm' := hr_idle_kp (fun k i hk => hm k i (by
    revert hk
    exact hd_sub (D := hd_idle_m) (E := hd_M) (by decide) k i)) I
  have xA : ∀ c i, hq_inA hd_Xc c = true → hq_gi sx' c i = hq_gi sx c i := fun c i h => (hx c i (hq_inA_spec h i)).1
  have mA : ∀ c i, hq_inA hd_M c = true → hq_gi sm' c i = hq_gi sm c i := fun c i h => (hm c i (hq_inA_spec h i)).1
  have b := T.1
  have eb : ∀ i, i < nt → hn_bold sm' i = hn_bold sm i := fun i hi => by
    rw [hn_bold_i I' (by omega), hn_bold_i I (by omega), mA 189 i (by decide)]
  have xr : ∀ c i, 76 ≤ c → c ≤ 93 → hq_gi sx' c i = hq_gi sx c i := fun c i h1 h2 => xA c i (hd_rngc1 h1 h2)
  refine ⟨⟨?_, t2, ?_⟩, ?_, ⟨?_, ?_, ?_, ?_, ?_, Bl⟩, ?_, ?_, ?_, ?_⟩
  · rw [(hx 0 2 (by decide)).2.2]; exact t1
  · rw [(hx 0 3 (by decide)).2.2]; exact t3
  · exact hr_told_kp t2 (fun k i hk => hx k i (hd_sub (D := hd_told_x) (E := hd_Xc) (by decide) k i hk)) (fun k i hk => hm k i (hd_sub (D := hd_told_m) (E := hd_M) (by decide) k i hk)) T
  · unfold hl_X at X ⊢
    rcases t2 with rfl | rfl <;> simp (disch := decide) only [xA] <;> exact X
  · unfold hl_M at M ⊢
    simp (disch := decide) only [mA]
    exact M
  · unfold hl_S at S ⊢
    simp (disch := decide) only [xA]
    exact S
  · simp (disch := decide) only [xA]
    exact F
  · rw [ho 198 0 (by omega) (by omega) (by unfold hm_sl; omega)]; exact B
  · exact hn_N_k (by omega) (by omega) (by omega) (fun c i h1 h2 => xr c i (by omega) (by omega)) (hx 76 1 (by decide)).2.1 (fun c i h => by
      unfold hm_sl at h
      exact ho c i (by omega) (by omega) (by unfold hm_sl; omega)) (fun i => mA 185 i (by decide)) eb W
  · exact hr_facts_kp (fun k i hk => hx k i (hd_sub (D := hd_facts_x) (E := hd_Xc) (by decide) k i hk)) (fun k i hk => hm k i (hd_sub (D := hd_facts_m) (E := hd_M) (by decide) k i hk)) Fa
  · unfold hr_img at Im ⊢
    rw [xA 0 7 (by decide), (hm 174 47 (by decide)).1]
    rcases Im with h | ⟨h1, h2, h3⟩
    · exact Or.inl h
    · exact Or.inr ⟨h1, h2, hn_N_k (by omega) (by omega) (by omega) (fun c i h1 h2 => xr c i (by omega) (by omega)) (hx 85 1 (by decide)).2.1 (fun c i h => by
        unfold hm_sl at h
        exact ho c i (by omega) (by omega) (by unfold hm_sl; omega)) (fun i => mA 185 i (by decide)) eb h3⟩
  · exact hu_all_k (by omega) (by omega) (fun c i h1 h2 => xA c i (hd_rngc2 h1 h2)) (hm 174 48 (by decide)).1 ho U
theorem hR_kc {HC : hq_S → Prop} (hx : hq_kp hd_Xc sx sx') (hm : hq_kp hd_M sm sm') (ho : hm_o 1 sm sm') (H : HC sx') (h : hR HC sx sm) : hR HC sx' sm' := by
  obtain ⟨h1, h2, h3, h4, h5, nc, nl, ng, nt, t, bar, fr, to, on, h6⟩ := h
  refine ⟨?_, ?_, ?_, fun i hi => ?_, ?_, nc, nl, ng, nt, t, bar, fr, to, on, hr_T_kc h3 hx hm ho h6⟩
  · exact hr_tape_kp (fun k i hk => hx k i (hd_sub (D := hd_tape_x) (E := hd_Xc) (by decide) k i hk)) (fun k i hk => hm k i (hd_sub (D := hd_tape_m) (E := hd_M) (by decide) k i hk)) h1
  · exact hr_flt_kp (fun k i hk => hx k i (hd_sub (D := hd_flt_x) (E := hd_Xc) (by decide) k i hk)) (fun k i hk => hm k i (hd_sub (D := hd_flt_m) (E := hd_M) (by decide) k i hk)) h2
  · exact hr_idle_kp (fun k i hk => hm k i (hd_sub (D := hd_idle_m) (E := hd_M) (by decide) k i hk)) h3
  · rw [(hx 50 i (hq_inA_spec (by decide) i)).1]; exact h4 i hi
  · exact H
end
/-! the posts -/
def cPG (n g : Nat) (tn : Nat → Nat) (r : Nat) : Prop := r < n ^ g ∧ ∀ c, c < n → ∃ k, cL n g tn k (dgs n g r) c
def cPo (n : Nat) (tn : Nat → Nat) (s : hq_S) : Prop := (∃ g r, 1 ≤ g ∧ g ≤ 3 ∧ hq_gi s 152 10 = Int32.ofNat g ∧ hq_gi s 152 11 = Int32.ofNat r ∧ cPG n g tn r ∧ (∀ r', r' < r → ¬ cPG n g tn r') ∧ ∀ g', 1 ≤ g' → g' < g → ∀ r', ¬ cPG n g' tn r') ∨ (hq_gi s 152 10 = 0 ∧ ∀ g', 1 ≤ g' → g' ≤ 3 → ∀ r', ¬ cPG n g' tn r')
/-- what is held of the chase, for n corners and these turns -/
def hCn (n : Nat) (tn : Nat → Nat) (s : hq_S) : Prop := n ≤ 10 ∧ hq_gi s 152 0 = Int32.ofNat n ∧ (∀ c, c < 10 → hq_gi s 153 c = Int32.ofNat (tn c) ∧ tn c < 2147483648) ∧ (∀ c, 10 ≤ c → tn c = 0) ∧ (hq_gi s 152 2 = 0 ∨ ∃ g K, cB n g tn ∧ K < 20000 ∧ cS n g tn K s ∧ cF n g tn K) ∧ (hq_gi s 152 9 = 0 ∨ (hq_gi s 152 9 = 1 ∧ cPo n tn s))
def hC (s : hq_S) : Prop := ∃ n tn, hCn n tn s
theorem cS_k {n g K : Nat} {tn : Nat → Nat} {s s' : hq_S} (e : ∀ c i, 152 ≤ c → c ≤ 158 → (c = 153 → i < 10) → hq_gi s' c i = hq_gi s c i) (S : cS n g tn K s) : cS n g tn K s' := ⟨⟨by rw [e _ _ (by omega) (by omega) (by omega)]; exact S.1.1, by rw [e _ _ (by omega) (by omega) (by omega)]; exact S.1.2.1, by rw [e _ _ (by omega) (by omega) (by omega)]; exact S.1.2.2.1, fun c hc => by rw [e _ _ (by omega) (by omega) (by omega)]; exact S.1.2.2.2 c hc⟩, cb_cg (fun _ _ => e _ _ (by omega) (by omega) (by omega)) (fun _ _ _ _ => Iff.rfl) S.2.1, cb_cg (fun _ _ => e _ _ (by omega) (by omega) (by omega)) (fun _ _ _ _ => Iff.rfl) S.2.2.1, fun r c hr hc => by rw [e _ _ (by omega) (by omega) (by omega)]; exact S.2.2.2 r c hr hc⟩
theorem hCn_k {n : Nat} {tn : Nat → Nat} {s s' : hq_S} (e : ∀ c i, 152 ≤ c → c ≤ 158 → (c = 153 → i < 10) → hq_gi s' c i = hq_gi s c i) (h : hCn n tn s) : hCn n tn s' := by
  obtain ⟨h1, h2, h3, h4, h5, h6⟩ := h
  refine ⟨h1, by rw [e _ _ (by omega) (by omega) (by omega)]; exact h2, fun c hc => by rw [e _ _ (by omega) (by omega) (by omega)]; exact h3 c hc, h4, ?_, ?_⟩
  · rw [e _ _ (by omega) (by omega) (by omega)]
    rcases h5 with h5 | ⟨g, K, a1, a2, a3, a4⟩
    · exact Or.inl h5
    · exact Or.inr ⟨g, K, a1, a2, cS_k e a3, a4⟩
  · unfold cPo
    rw [e 152 9 (by omega) (by omega) (by omega), e 152 10 (by omega) (by omega) (by omega), e 152 11 (by omega) (by omega) (by omega)]
    exact h6
theorem hC_loc : hc_loc hC := fun s s' e ⟨n, tn, h⟩ => ⟨n, tn, hCn_k (fun c i h1 h2 _ => e c i h1 h2) h⟩
theorem hC_0 : hC hq_s0 := by
  refine ⟨0, fun _ => 0, by omega, by decide +kernel, fun c hc => ⟨?_, (by decide : (0 : Nat) < 2147483648)⟩, fun _ _ => rfl, Or.inl (by decide +kernel), Or.inl (by decide +kernel)⟩
  have : ∀ c, c < 10 → hq_gi hq_s0 153 c = Int32.ofNat 0 := by decide +kernel
  exact this c hc
/-! it is fitted to the streets -/
def tnx (nx : Nat → Nat) (c : Nat) : Nat := if c < 10 then nx c ||| 2 ^ c else 0
section
variable {N nc : Nat} {nx : Nat → Nat}
theorem ft_19 {s0 : hq_S} (hnc : nc ≤ 10) : ∀ (q j m : Nat) (a2 : Int32) (s : hq_S), j + q = 10 → q < m → hl_S 103 nc nx s → (∀ c i, ¬ c = 153 → hq_gi s c i = hq_gi s0 c i) → (∀ c, c < 10 → hq_gi s 153 c = if c < j then Int32.ofNat (tnx nx c) else hq_gi s0 153 c) → (a2 = 0 ∨ a2 = 1) → (a2 = 1 ↔ (hq_gi s0 152 0 = Int32.ofNat nc ∧ ∀ c, c < j → hq_gi s0 153 c = Int32.ofNat (tnx nx c))) → ∃ s', f_X0_fitTo_L19 N m 103 a2 (Int32.ofNat j) s = some s' ∧ hq_gi s' 152 0 = Int32.ofNat nc ∧ (∀ c, c < 10 → hq_gi s' 153 c = Int32.ofNat (tnx nx c)) ∧ (((hq_gi s0 152 0 = Int32.ofNat nc ∧ ∀ c, c < 10 → hq_gi s0 153 c = Int32.ofNat (tnx nx c)) ∧ ∀ i, hq_gi s' 152 i = hq_gi s0 152 i) ∨ (¬ (hq_gi s0 152 0 = Int32.ofNat nc ∧ ∀ c, c < 10 → hq_gi s0 153 c = Int32.ofNat (tnx nx c)) ∧ hq_gi s' 152 2 = 0 ∧ hq_gi s' 152 9 = 0)) ∧ ∀ c i, ¬ c = 152 → ¬ c = 153 → hq_gi s' c i = hq_gi s0 c i := by
  have d10 : ¬ (1 : Int32) = 0 := by decide
  intro q
  induction q with
  | zero =>
    intro j m a2 s hj hm L k1 k2 h2 h2'
    obtain ⟨m, rfl⟩ : ∃ j, m = j + 1 := ⟨m - 1, by omega⟩
    have cc : ¬ Int32.ofNat j < (10 : Int32) := by rw [nb_lit 10, nn_lt (by omega) (by omega)]; omega
    have hj : j = 10 := by omega
    rw [hj] at k2 h2'
    have pb : ∀ (s : hq_S), hq_pi s 152 9 1 0 = some (hq_si s 152 9 0) := fun _ => rfl
    rcases h2 with rfl | rfl
    · refine ⟨hq_si (hq_si (hq_si s 152 0 (Int32.ofNat nc)) 152 2 0) 152 9 0, by simp only [f_X0_fitTo_L19_s, f_X0_fitTo_L19_B, if_neg cc, L.1, nn_pi, Option.bind_some, if_true, pb], ?_, fun c hc => ?_, Or.inr ⟨fun z => absurd (h2'.mpr z) (by decide), ?_, ?_⟩, fun c i h1 h2 => ?_⟩
      · rw [nb_ii, if_neg (fun z => by omega), nb_ii, if_neg (fun z => by omega), nb_ii, if_pos ⟨rfl, rfl⟩]
      · rw [nb_ii, if_neg (fun z => by omega), nb_ii, if_neg (fun z => by omega), nb_ii, if_neg (fun z => by omega), k2 c hc, if_pos hc]
      · rw [nb_ii, if_neg (fun z => by omega), nb_ii, if_pos ⟨rfl, rfl⟩]
      · rw [nb_ii, if_pos ⟨rfl, rfl⟩]
      · rw [nb_ii, if_neg (fun z => h1 z.1), nb_ii, if_neg (fun z => h1 z.1), nb_ii, if_neg (fun z => h1 z.1), k1 c i h2]
    · have w := h2'.mp rfl
      refine ⟨hq_si s 152 0 (Int32.ofNat nc), by simp only [f_X0_fitTo_L19_s, f_X0_fitTo_L19_B, if_neg cc, L.1, nn_pi, Option.bind_some, if_neg d10], ?_, fun c hc => ?_, Or.inl ⟨w, fun i => ?_⟩, fun c i h1 h2 => ?_⟩
      · rw [nb_ii, if_pos ⟨rfl, rfl⟩]
      · rw [nb_ii, if_neg (fun z => by omega), k2 c hc, if_pos hc]
      · rw [nb_ii]
        by_cases z : i = 0
        · rw [if_pos ⟨rfl, z⟩, z, w.1]
        · rw [if_neg (fun v => z v.2), k1 _ _ (by omega)]
      · rw [nb_ii, if_neg (fun z => h1 z.1), k1 c i h2]
  | succ q ih =>
    intro j m a2 s hj hm L k1 k2 h2 h2'
    obtain ⟨m, rfl⟩ : ∃ j, m = j + 1 := ⟨m - 1, by omega⟩
    have cc : Int32.ofNat j < (10 : Int32) := by rw [nb_lit 10, nn_lt (by omega) (by omega)]; omega
    have l1 : hq_ld s (103 + 1) 10 (Int32.ofNat j) = some (Int32.ofNat (nx j)) := by rw [nn_ld (by omega) (by omega), L.2 j (by omega)]
    have l2 : hq_ld s 153 10 (Int32.ofNat j) = some (hq_gi s0 153 j) := by rw [nn_ld (by omega) (by omega), k2 j (by omega), if_neg (by omega)]
    have tj : Int32.ofNat (nx j) ||| ((1 : Int32) <<< (Int32.ofNat j &&& 31)) = Int32.ofNat (tnx nx j) := by rw [nb_one (by omega), nb_or, tnx, if_pos (by omega)]
    have st : hq_st s 153 10 (Int32.ofNat j) (Int32.ofNat (tnx nx j)) = some (hq_si s 153 j (Int32.ofNat (tnx nx j))) := nn_st (by omega) (by omega)
    have go : ∀ b2 : Int32, (b2 = 0 ∨ b2 = 1) → (b2 = 1 ↔ (a2 = 1 ∧ hq_gi s0 153 j = Int32.ofNat (tnx nx j))) → _ := fun b2 hb hb' => ih (j + 1) m b2 (hq_si s 153 j (Int32.ofNat (tnx nx j))) (by omega) (by omega) ⟨by rw [nb_ii, if_neg (fun z => by omega)]; exact L.1, fun d hd => by rw [nb_ii, if_neg (fun z => by omega)]; exact L.2 d hd⟩ (fun c i h => by rw [nb_ii, if_neg (fun z => h z.1)]; exact k1 c i h) (fun c hc => by
      rw [nb_ii]
      by_cases z : c = j
      · rw [if_pos ⟨rfl, z⟩, if_pos (by omega), z]
      · rw [if_neg (fun w => z w.2), k2 c hc]
        by_cases w : c < j
        · rw [if_pos w, if_pos (by omega)]
        · rw [if_neg w, if_neg (by omega)]) hb (by
      rw [hb', h2']
      constructor
      · rintro ⟨⟨w1, w2⟩, w3⟩
        exact ⟨w1, fun c hc => by
          by_cases z : c = j
          · rw [z]; exact w3
          · exact w2 c (by omega)⟩
      · rintro ⟨w1, w2⟩
        exact ⟨⟨w1, fun c hc => w2 c (by omega)⟩, w2 j (by omega)⟩)
    have a0 : (0 : Int32) &&& 1 = 0 ∧ (0 : Int32) &&& 0 = 0 ∧ (1 : Int32) &&& 1 = 1 ∧ (1 : Int32) &&& 0 = 0 := by decide
    by_cases q1 : hq_gi s0 153 j = Int32.ofNat (tnx nx j)
    · rcases h2 with rfl | rfl
      · obtain ⟨s', e1, e2⟩ := go 0 (Or.inl rfl) ⟨fun h => absurd h (by decide), fun h => h.1⟩
        refine ⟨s', ?_, e2⟩
        rw [← e1]
        simp only [f_X0_fitTo_L19_s, f_X0_fitTo_L19_B, if_pos cc, l1, l2, Option.bind_some, tj, if_pos q1, st, a0.1, nn_succ]
      · obtain ⟨s', e1, e2⟩ := go 1 (Or.inr rfl) ⟨fun _ => ⟨rfl, q1⟩, fun _ => rfl⟩
        refine ⟨s', ?_, e2⟩
        rw [← e1]
        simp only [f_X0_fitTo_L19_s, f_X0_fitTo_L19_B, if_pos cc, l1, l2, Option.bind_some, tj, if_pos q1, st, a0.2.2.1, nn_succ]
    · obtain ⟨s', e1, e2⟩ := go 0 (Or.inl rfl) ⟨fun h => absurd h (by decide), fun h => absurd h.2 q1⟩
      refine ⟨s', ?_, e2⟩
      rw [← e1]
      rcases h2 with rfl | rfl
      · simp only [f_X0_fitTo_L19_s, f_X0_fitTo_L19_B, if_pos cc, l1, l2, Option.bind_some, tj, if_neg q1, st, a0.2.1, nn_succ]
      · simp only [f_X0_fitTo_L19_s, f_X0_fitTo_L19_B, if_pos cc, l1, l2, Option.bind_some, tj, if_neg q1, st, a0.2.2.2, nn_succ]
theorem tnx_lt (hnc : nc ≤ 10) (hx : ∀ c, nx c < 2 ^ nc) (c : Nat) : tnx nx c < 1024 := by
  unfold tnx
  split
  · rename_i h
    exact Nat.or_lt_two_pow (n := 10) (nb_1024 hnc (hx c)) (Nat.pow_lt_pow_right (by omega) (by omega))
  · omega
theorem ft_all {s : hq_S} (hN : 100 < N) (hnc : nc ≤ 10) (hx : ∀ c, nx c < 2 ^ nc) (H : hC s) (L : hl_S 103 nc nx s) : ∃ s', f_X0_fitTo N 103 s = some s' ∧ hCn nc (tnx nx) s' ∧ (hCn nc (tnx nx) s → ∀ i, hq_gi s' 152 i = hq_gi s 152 i) ∧ ∀ c i, ¬ c = 152 → ¬ c = 153 → hq_gi s' c i = hq_gi s c i := by
  obtain ⟨n, tn, H⟩ := H
  have tl := fun c => tnx_lt hnc hx c
  have key : ∃ a2 : Int32, (if hq_gi s 152 0 = hq_gi s 103 0 then some (1 : Int32) else some 0) = some a2 ∧ (a2 = 0 ∨ a2 = 1) ∧ (a2 = 1 ↔ hq_gi s 152 0 = Int32.ofNat nc) := by
    rw [L.1]
    by_cases q : hq_gi s 152 0 = Int32.ofNat nc
    · exact ⟨1, if_pos q, Or.inr rfl, ⟨fun _ => q, fun _ => rfl⟩⟩
    · exact ⟨0, if_neg q, Or.inl rfl, ⟨fun h => absurd h (by decide), fun h => absurd h q⟩⟩
  obtain ⟨a2, b1, b2, b3⟩ := key
  obtain ⟨s', e1, e2, e3, e4, e5⟩ := ft_19 (N := N) (nc := nc) (nx := nx) hnc 10 0 N a2 s (by omega) (by omega) L (fun _ _ _ => rfl) (fun c _ => by rw [if_neg (by omega)]) b2 ⟨fun h => ⟨b3.mp h, fun c hc => by omega⟩, fun h => b3.mpr h.1⟩
  have e1 : f_X0_fitTo_L19 N N 103 a2 0 s = some s' := e1
  have t10 : ∀ c, 10 ≤ c → tnx nx c = 0 := fun c hc => if_neg (by omega)
  refine ⟨s', by simp only [f_X0_fitTo, b1, Option.bind_some, e1], ?_, fun h => ?_, e5⟩
  · rcases e4 with ⟨⟨f1, f2⟩, f3⟩ | ⟨-, f1, f2⟩
    · obtain ⟨h1, h2, h3, h4, h5⟩ := H
      have en : n = nc := by
        rw [h2] at f1
        exact (nn_inj (by omega) (by omega)).mp f1
      have et : tn = tnx nx := funext fun c => by
        by_cases hc : c < 10
        · have := (h3 c hc).1
          rw [f2 c hc] at this
          exact ((nn_inj (by have := tl c; omega) (h3 c hc).2).mp this).symm
        · rw [h4 c (by omega), t10 c (by omega)]
      subst en
      subst et
      exact hCn_k (fun c i h1 h2 h3 => by
        by_cases z : c = 152
        · rw [z]; exact f3 i
        · by_cases z2 : c = 153
          · rw [z2, e3 i (h3 z2), f2 i (h3 z2)]
          · exact e5 c i z z2) ⟨h1, h2, h3, h4, h5⟩
    · exact ⟨hnc, e2, fun c hc => ⟨e3 c hc, by have := tl c; omega⟩, t10, Or.inl f1, Or.inl f2⟩
  · rcases e4 with ⟨-, f3⟩ | ⟨f, -⟩
    · exact f3
    · exact absurd ⟨h.2.1, fun c hc => (h.2.2.1 c hc).1⟩ f
theorem tnx_B (h1 : 1 ≤ nc) (hnc : nc ≤ 10) (hx : ∀ c, nx c < 2 ^ nc) {m : Nat} (m1 : 1 ≤ m) (m3 : m ≤ 3) : cB nc m (tnx nx) := ⟨h1, hnc, m1, m3, fun c hc => by
  rw [tnx, if_pos (by omega)]
  exact nb_lt_or (hx c) (nb_2lt hc)⟩
/-- it is solved for so many guards -/
theorem so_all {s : hq_S} {m : Nat} (hN : 10300 < N) (h1 : 1 ≤ nc) (hnc : nc ≤ 10) (hx : ∀ c, nx c < 2 ^ nc) (m1 : 1 ≤ m) (m3 : m ≤ 3) (H : hC s) (L : hl_S 103 nc nx s) : ∃ K s', K < 20000 ∧ f_X0_solve N 103 (Int32.ofNat m) s = some s' ∧ cS nc m (tnx nx) K s' ∧ cF nc m (tnx nx) K ∧ hCn nc (tnx nx) s' ∧ (hCn nc (tnx nx) s → ∀ i, i = 9 ∨ i = 10 ∨ i = 11 → hq_gi s' 152 i = hq_gi s 152 i) ∧ ∀ c i, ¬ (152 ≤ c ∧ c ≤ 158) → hq_gi s' c i = hq_gi s c i := by
  have B := tnx_B h1 hnc hx m1 m3
  have hM := cB_M B
  obtain ⟨s1, e1, e2, e3, e4⟩ := ft_all (N := N) (by omega) hnc hx H L
  obtain ⟨a1, a2, a3, a4, a5, a6⟩ := id e2
  by_cases q1 : hq_gi s1 152 2 = Int32.ofNat m
  · rcases a5 with a5 | ⟨g, K, b1, b2, b3, b4⟩
    · rw [a5] at q1
      have := (nn_inj (a := 0) (by omega) (by omega)).mp q1
      omega
    · have eg : g = m := by
        have h := b3.1.2.1
        rw [q1] at h
        exact ((nn_inj (by omega) (by have := b1.2.2.2.1; omega)).mp h).symm
      subst eg
      exact ⟨K, s1, b2, by simp only [f_X0_solve, e1, Option.bind_some, if_pos q1], b3, b4, e2, fun h i _ => e3 h i, fun c i h => e4 c i (by omega) (by omega)⟩
  · have q2 : ¬ Int32.ofNat nc < (1 : Int32) := by rw [nb_lit 1, nn_lt (by omega) (by omega)]; omega
    obtain ⟨s2, f1, f2, f3, f4⟩ := lo_all (N := N) (n := nc) (g := m) (tn := tnx nx) (s := hq_si s1 152 2 (Int32.ofNat m)) h1 hnc hN m3 (by rw [nb_ii, if_neg (fun z => by omega)]; exact a2) (by rw [nb_ii, if_pos ⟨rfl, rfl⟩]) (fun c hc => by rw [nb_ii, if_neg (fun z => by omega)]; exact (a3 c hc).1)
    obtain ⟨K, s3, g0, g1, g2, g3, g4⟩ := so_36 (N := N) (a2 := Int32.ofNat m) (k1 := 103) hN B 10001 0 N s2 (by omega) (by omega) f2 (by
      have h := cn_d (P := fun _ => False) (Q := fun i => cL nc m (tnx nx) 0 (dgs nc m (i / nc)) (i % nc)) (m := nc ^ m * nc) (fun i _ h => h.elim) ⟨0 * nc + dgs nc m 0 0, cx_il (by omega) (dgs_lt (by omega) m 0 0 (by omega)), fun h => h, by
        have dl := dgs_lt (n := nc) (by omega) m 0 0 (by omega)
        rw [Nat.zero_mul, Nat.zero_add, Nat.div_eq_of_lt dl, Nat.mod_eq_of_lt dl]
        exact ⟨0, by omega, rfl⟩⟩
      omega)
    have g1 : f_X0_solve_L36 N N 103 (Int32.ofNat m) 1 1 s2 = some s3 := g1
    have k152 : ∀ i, ¬ i = 2 → ¬ i = 3 → hq_gi s3 152 i = hq_gi s1 152 i := fun i h2 h3 => by rw [g4 _ _ (by omega) (by omega) (by omega) (by omega), f3 i h3, nb_ii, if_neg (fun z => h2 z.2)]
    refine ⟨K, s3, g0, by simp only [f_X0_solve, e1, Option.bind_some, if_neg q1, a2, if_neg q2, nn_pi, f1, g1], g2, g3, ⟨a1, g2.1.1, fun c hc => ⟨g2.1.2.2.2 c hc, (a3 c hc).2⟩, a4, Or.inr ⟨m, K, B, g0, g2, g3⟩, ?_⟩, fun h i hi => by rw [k152 i (by omega) (by omega)]; exact e3 h i, fun c i h => ?_⟩
    · unfold cPo at a6 ⊢
      rw [k152 9 (by omega) (by omega), k152 10 (by omega) (by omega), k152 11 (by omega) (by omega)]
      exact a6
    · rw [g4 _ _ (by omega) (by omega) (by omega) (by omega), f4 _ _ (by omega) (by omega) (by omega) (by omega), nb_ii, if_neg (fun z => by omega), e4 _ _ (by omega) (by omega)]
end
