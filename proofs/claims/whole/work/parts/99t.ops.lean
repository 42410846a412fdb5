/-! CALLS: what keeps the relation -/
def hd_X1 : List (Nat × Option Nat) := [(0, some 2), (0, some 3), (2, none), (3, none), (4, none), (5, none), (6, none), (7, none), (8, none), (9, none), (10, none), (11, none), (12, none), (13, none), (14, none), (16, none), (17, none), (18, none), (19, none), (20, none), (21, none), (22, none), (23, none), (24, none), (25, none), (26, none), (27, none), (28, none), (29, none), (30, none), (31, none), (32, none), (33, none), (34, none), (35, none), (36, none), (37, none), (39, none), (40, none), (41, none), (42, none), (43, none), (44, none), (45, none), (46, none), (47, none)]
def hd_M1 : List (Nat × Option Nat) := [(176, none), (177, none), (178, none), (179, none), (180, none), (181, none), (182, none), (183, none), (184, none), (185, none), (186, none), (187, none), (188, none), (189, none), (190, none), (191, none), (192, none), (193, none)]
def hd_X2 : List (Nat × Option Nat) := [(0, some 7), (76, none), (77, none), (78, none), (79, none), (80, none), (81, none), (82, none), (83, none), (84, none), (85, none), (86, none), (87, none), (88, none), (89, none), (90, none), (91, none), (92, none), (93, none), (103, none), (104, none), (105, none), (170, none), (171, none), (172, none), (173, none)]
def hd_M2 : List (Nat × Option Nat) := [(174, some 47), (174, some 48)]
def hd_X3 : List (Nat × Option Nat) := [(50, none), (152, none), (153, none), (154, none), (155, none), (156, none), (157, none), (158, none)]
section
variable {nc nl ng nt t bar bar' : Nat} {fr to on : Nat → Nat} {sx sx' sm sm' : hq_S} {HC : hq_S → Prop}
/-- the told text stays; the rest is shown anew -/
theorem hr_T_new (hx : hq_kp hd_X1 sx sx') (hm : hq_kp hd_M1 sm sm') (h : hr_T nc nl ng nt t bar fr to on sx sm) (S : hl_S 103 nc (ly_nx fr to on bar' false nl) sx') (F : ∀ a b, a < nc → b < nc → hq_gi sx' 105 (10 * a + b) = Int32.ofNat (bf_far (ly_nx fr to on bar' false nl) nc a b)) (B : hq_gi sm' 198 0 = Int32.ofNat bar' ∧ bar' < 1048576) (W : hn_N nc ng nt 76 0 sx' sm') (Fa : hr_facts nc nt sx' sm') (Im : hr_img nc ng nt sx' sm') (U : hu_all nc nl ng sx' sm') : hr_T nc nl ng nt t bar' fr to on sx' sm' := by
  obtain ⟨⟨t1, t2, t3⟩, T, ⟨X, M, -⟩, -⟩ := h
  have xA : ∀ c i, hq_inA hd_X1 c = true → hq_gi sx' c i = hq_gi sx c i := fun c i h => (hx c i (hq_inA_spec h i)).1
  have mA : ∀ c i, hq_inA hd_M1 c = true → hq_gi sm' c i = hq_gi sm c i := fun c i h => (hm c i (hq_inA_spec h i)).1
  refine ⟨⟨by rw [(hx 0 2 (by decide)).2.2]; exact t1, t2, by rw [(hx 0 3 (by decide)).2.2]; exact t3⟩, ?_, ⟨?_, ?_, S, F, B.1, B.2⟩, W, Fa, Im, U⟩
  · exact hr_told_kp t2 (fun k i hk => hx k i (hd_sub (D := hd_told_x) (E := hd_X1) (by decide) k i hk)) (fun k i hk => hm k i (hd_sub (D := hd_told_m) (E := hd_M1) (by decide) k i hk)) T
  · unfold hl_X at X ⊢
    rcases t2 with rfl | rfl <;> simp (disch := decide) only [xA] <;> exact X
  · unfold hl_M at M ⊢
    simp (disch := decide) only [mA]
    exact M
/-- all but the facts stays -/
theorem hr_T_facts (I : hr_idle sm) (I' : hr_idle sm') (hx : hq_kp hd_X1 sx sx') (hm : hq_kp hd_M1 sm sm') (hx2 : hq_kp hd_X2 sx sx') (hm2 : hq_kp hd_M2 sm sm') (ho : hm_o 1 sm sm') (h : hr_T nc nl ng nt t bar fr to on sx sm) (Fa : hr_facts nc nt sx' sm') : hr_T nc nl ng nt t bar fr to on sx' sm' := by
  have h0 := h
  obtain ⟨⟨t1, t2, t3⟩, T, ⟨X, M, S, F, B, Bl⟩, W, -, Im, U⟩ := h
  have xA : ∀ c i, hq_inA hd_X2 c = true → hq_gi sx' c i = hq_gi sx c i := fun c i h => (hx2 c i (hq_inA_spec h i)).1
  have mA : ∀ c i, hq_inA hd_M1 c = true → hq_gi sm' c i = hq_gi sm c i := fun c i h => (hm c i (hq_inA_spec h i)).1
  have b := T.1
  have eb : ∀ i, i < nt → hn_bold sm' i = hn_bold sm i := fun i hi => by
    rw [hn_bold_i I' (by omega), hn_bold_i I (by omega), mA 189 i (by decide)]
  have xr : ∀ c i, 76 ≤ c → c ≤ 93 → hq_gi sx' c i = hq_gi sx c i := fun c i h1 h2 => by
    have := List.all_eq_true.mp (show ((List.range 18).all fun j => hq_inA hd_X2 (76 + j)) = true by decide) (c - 76) (List.mem_range.mpr (by omega))
    rw [show 76 + (c - 76) = c by omega] at this
    exact xA c i this
  have xu : ∀ c i, 170 ≤ c → c ≤ 173 → hq_gi sx' c i = hq_gi sx c i := fun c i h1 h2 => by
    have := List.all_eq_true.mp (show ((List.range 4).all fun j => hq_inA hd_X2 (170 + j)) = true by decide) (c - 170) (List.mem_range.mpr (by omega))
    rw [show 170 + (c - 170) = c by omega] at this
    exact xA c i this
  refine hr_T_new (bar := bar) hx hm h0 ?_ ?_ ⟨?_, Bl⟩ ?_ Fa ?_ ?_
  · unfold hl_S at S ⊢
    simp (disch := decide) only [xA]
    exact S
  · simp (disch := decide) only [xA]
    exact F
  · rw [ho 198 0 (by omega) (by omega) (by unfold hm_sl; omega)]; exact B
  · exact hn_N_k (by omega) (by omega) (by omega) (fun c i h1 h2 => xr c i (by omega) (by omega)) (hx2 76 1 (by decide)).2.1 (fun c i h => by
      unfold hm_sl at h
      exact ho c i (by omega) (by omega) (by unfold hm_sl; omega)) (fun i => mA 185 i (by decide)) eb W
  · unfold hr_img at Im ⊢
    rw [(hx2 0 7 (by decide)).1, (hm2 174 47 (by decide)).1]
    rcases Im with h | ⟨h1, h2, h3⟩
    · exact Or.inl h
    · exact Or.inr ⟨h1, h2, hn_N_k (by omega) (by omega) (by omega) (fun c i h1 h2 => xr c i (by omega) (by omega)) (hx2 85 1 (by decide)).2.1 (fun c i h => by
        unfold hm_sl at h
        exact ho c i (by omega) (by omega) (by unfold hm_sl; omega)) (fun i => mA 185 i (by decide)) eb h3⟩
  · exact hu_all_k (by omega) (by omega) xu (hm2 174 48 (by decide)).1 ho U
theorem hR_gen (hc : hc_loc HC) (h : hR HC sx sm) (Ta : hr_tape sx' sm') (Fl : hr_flt sx' sm') (Id : hr_idle sm') (hx : hq_kp hd_X3 sx sx') (Te : ∀ (nc nl ng nt t bar : Nat) (fr to on : Nat → Nat), hr_T nc nl ng nt t bar fr to on sx sm → ∃ bar', hr_T nc nl ng nt t bar' fr to on sx' sm') : hR HC sx' sm' := by
  obtain ⟨h1, h2, h3, h4, h5, nc, nl, ng, nt, t, bar, fr, to, on, h6⟩ := h
  obtain ⟨bar', h7⟩ := Te nc nl ng nt t bar fr to on h6
  refine ⟨Ta, Fl, Id, fun i hi => ?_, ?_, nc, nl, ng, nt, t, bar', fr, to, on, h7⟩
  · rw [(hx 50 i (hq_inA_spec (by decide) i)).1]; exact h4 i hi
  · refine hc sx sx' (fun c i h1 h2 => ?_) h5
    have := List.all_eq_true.mp (show ((List.range 7).all fun j => hq_inA hd_X3 (152 + j)) = true by decide) (c - 152) (List.mem_range.mpr (by omega))
    rw [show 152 + (c - 152) = c by omega] at this
    exact (hx c i (hq_inA_spec this i)).1
theorem hm_o_fc {WM : List (Nat × Option Nat)} {l : Nat} (dO : (WM.all fun w => Nat.blt w.1 196 || Nat.blt 205 w.1) = true) (h : hq_fc WM sm sm') : hm_o l sm sm' := fun c i h1 h2 _ => by
  refine (h c i ?_).1
  unfold hq_nw
  refine List.all_eq_true.mpr fun w hw => ?_
  have := List.all_eq_true.mp dO w hw
  have hn : Nat.beq w.1 c = false := by
    cases q : Nat.beq w.1 c with
    | false => rfl
    | true =>
      have := Nat.eq_of_beq_eq_true q
      rcases Bool.or_eq_true_iff.mp ‹(Nat.blt w.1 196 || Nat.blt 205 w.1) = true› with h | h <;> rw [Nat.blt_eq] at h <;> omega
  rw [hn]
  rfl
/-- a question that leaves the towns alone -/
theorem hs_mk {α : Type} {fX fM : hq_S → Option (α × hq_S)} {WX WM : List (Nat × Option Nat)} (hc : hc_loc HC) (dX : hq_dis WX hd_X = true) (dM : hq_dis WM hd_M = true) (dO : (WM.all fun w => Nat.blt w.1 196 || Nat.blt 205 w.1) = true) (fx : ∀ s y, fX s = some y → hq_fc WX s y.2) (fm : ∀ s y, fM s = some y → hq_fc WM s y.2) (h : ∀ sx sm, hR HC sx sm → ∃ v sx' sm', fX sx = some (v, sx') ∧ fM sm = some (v, sm')) : hq_Sim (hR HC) fX fM := fun sx sm R => by
  obtain ⟨v, sx', sm', e1, e2⟩ := h sx sm R
  exact ⟨v, sx', sm', e1, e2, hR_k hc ((fx _ _ e1).kp dX) ((fm _ _ e2).kp dM) (hm_o_fc dO (fm _ _ e2)) R⟩
/-- a question that plays on the reference's town 1 -/
theorem hs_mk2 {α : Type} {fX fM : hq_S → Option (α × hq_S)} {WX WM : List (Nat × Option Nat)} (hc : hc_loc HC) (dX : hq_dis WX hd_X = true) (dM : hq_dis WM hd_M = true) (fx : ∀ s y, fX s = some y → hq_fc WX s y.2) (fm : ∀ s y, fM s = some y → hq_fc WM s y.2) (h : ∀ sx sm, hR HC sx sm → ∃ v sx' sm', fX sx = some (v, sx') ∧ fM sm = some (v, sm') ∧ hm_o 1 sm sm') : hq_Sim (hR HC) fX fM := fun sx sm R => by
  obtain ⟨v, sx', sm', e1, e2, e3⟩ := h sx sm R
  exact ⟨v, sx', sm', e1, e2, hR_k hc ((fx _ _ e1).kp dX) ((fm _ _ e2).kp dM) e3 R⟩
theorem hr_T_town (I : hr_idle sm) (h : hr_T nc nl ng nt t bar fr to on sx sm) : hr_town sx sm := by
  obtain ⟨⟨t1, t2, t3⟩, T, -, W, -⟩ := h
  have b := T.1
  refine ⟨nc, nl, ng, nt, t, t1, t2, T, W.1, W.2.1, W.2.2.1, W.2.2.2.1, W.2.2.2.2.1, W.2.2.2.2.2.1, fun i hi => ?_, W.2.2.2.2.2.2.2⟩
  obtain ⟨w1, ⟨n, hn, q1, q2⟩, w3, w4⟩ := W.2.2.2.2.2.2.1 i hi
  rw [hn_bold_i I (by omega)] at q2
  exact ⟨w1, by rw [q1, q2], w3, w4⟩
end
/-! the small calls -/
section
variable {HC : hq_S → Prop} {N : Nat}
theorem hR_town {sx sm : hq_S} (R : hR HC sx sm) : hr_town sx sm := by
  obtain ⟨h1, h2, h3, h4, h5, nc, nl, ng, nt, t, bar, fr, to, on, h6⟩ := R
  exact hr_T_town h3 h6
theorem hs_op_2 (hc : hc_loc HC) (a : Int32) : hq_Sim (hR HC) (f_X11_fault N a) (f_X12_fault N a) := hs_mk hc (WX := w_X11_fault) (WM := w_X12_fault) (by decide) (by decide) (by decide) (fun _ _ => f_X11_fault_fw) (fun _ _ => f_X12_fault_fw) fun sx sm R => hs_fault R.2.1 a
theorem hs_op_3 (hc : hc_loc HC) (hN : 100 ≤ N) (a b : Int32) : hq_Sim (hR HC) (f_X11_named N a b) (f_X12_named N a b) := hs_mk hc (WX := w_X11_named) (WM := w_X12_named) (by decide) (by decide) (by decide) (fun _ _ => f_X11_named_fw) (fun _ _ => f_X12_named_fw) fun sx sm R => hs_named hN (hR_town R) a b
theorem hs_op_5 (hc : hc_loc HC) (a b : Int32) : hq_Sim (hR HC) (f_X11_guard N a b) (f_X12_guard N a b) := hs_mk hc (WX := w_X11_guard) (WM := w_X12_guard) (by decide) (by decide) (by decide) (fun _ _ => f_X11_guard_fw) (fun _ _ => f_X12_guard_fw) fun sx sm R => hs_guard (hR_town R) a b
theorem hs_op_6 (hc : hc_loc HC) (a b : Int32) : hq_Sim (hR HC) (f_X11_thief N a b) (f_X12_thief N a b) := hs_mk hc (WX := w_X11_thief) (WM := w_X12_thief) (by decide) (by decide) (by decide) (fun _ _ => f_X11_thief_fw) (fun _ _ => f_X12_thief_fw) fun sx sm R => hs_thief (hR_town R) a b
theorem hs_op_7 (hc : hc_loc HC) (a b : Int32) : hq_Sim (hR HC) (f_X11_lane N a b) (f_X12_lane N a b) := hs_mk hc (WX := w_X11_lane) (WM := w_X12_lane) (by decide) (by decide) (by decide) (fun _ _ => f_X11_lane_fw) (fun _ _ => f_X12_lane_fw) fun sx sm R => hs_lane (hR_town R) a b
theorem hs_op_0 (hc : hc_loc HC) (hN : 30 ≤ N) (a b c d e : Int32) : hq_Sim (hR HC) (f_X11_feed N a b c d e) (f_X12_feed N a b c d e) := fun sx sm R => by
  obtain ⟨v, sx', sm', e1, e2, e3⟩ := hr_feed hN R.1 a b c d e
  have kx := f_X11_feed_fw e1
  have km := f_X12_feed_fw e2
  have Id := hr_idle_kp (km.kp (by decide)) R.2.2.1
  refine ⟨v, sx', sm', e1, e2, hR_gen hc R e3 (hr_flt_kp (kx.kp (by decide)) (km.kp (by decide)) R.2.1) Id (kx.kp (by decide)) fun nc nl ng nt t bar fr to on T => ⟨bar, hr_T_facts R.2.2.1 Id (kx.kp (by decide)) (km.kp (by decide)) (kx.kp (by decide)) (km.kp (by decide)) (hm_o_fc (by decide) km) T (hr_facts_kp (kx.kp (by decide)) (km.kp (by decide)) T.2.2.2.2.1)⟩⟩
theorem hs_op_37 (hc : hc_loc HC) (a : Int32) : hq_Sim (hR HC) (f_X11_strike N a) (f_X12_strike N a) := fun sx sm R => by
  obtain ⟨nc0, nl0, ng0, nt0, t0, bar0, fr0, to0, on0, T0⟩ := R.2.2.2.2.2
  obtain ⟨v, sx', sm', e1, e2, -⟩ := hs_strike (N := N) T0.2.2.2.2.1 a
  have kx := f_X11_strike_fw e1
  have km := f_X12_strike_fw e2
  have Id := hr_idle_kp (km.kp (by decide)) R.2.2.1
  refine ⟨v, sx', sm', e1, e2, hR_gen hc R (hr_tape_kp (kx.kp (by decide)) (km.kp (by decide)) R.1) (hr_flt_kp (kx.kp (by decide)) (km.kp (by decide)) R.2.1) Id (kx.kp (by decide)) fun nc nl ng nt t bar fr to on T => ⟨bar, ?_⟩⟩
  obtain ⟨v', sx'', sm'', e1', e2', e3⟩ := hs_strike (N := N) T.2.2.2.2.1 a
  rw [e1] at e1'
  rw [e2] at e2'
  cases e1'
  cases e2'
  exact hr_T_facts R.2.2.1 Id (kx.kp (by decide)) (km.kp (by decide)) (kx.kp (by decide)) (km.kp (by decide)) (hm_o_fc (by decide) km) T e3
theorem hs_op_38 (hc : hc_loc HC) (a : Int32) : hq_Sim (hR HC) (f_X11_known N a) (f_X12_known N a) := fun sx sm R => by
  obtain ⟨nc0, nl0, ng0, nt0, t0, bar0, fr0, to0, on0, T0⟩ := R.2.2.2.2.2
  obtain ⟨v, sx', sm', e1, e2, -⟩ := hs_known (N := N) T0.2.2.2.2.1 a
  have kx := f_X11_known_fw e1
  have km := f_X12_known_fw e2
  have Id := hr_idle_kp (km.kp (by decide)) R.2.2.1
  refine ⟨v, sx', sm', e1, e2, hR_gen hc R (hr_tape_kp (kx.kp (by decide)) (km.kp (by decide)) R.1) (hr_flt_kp (kx.kp (by decide)) (km.kp (by decide)) R.2.1) Id (kx.kp (by decide)) fun nc nl ng nt t bar fr to on T => ⟨bar, ?_⟩⟩
  obtain ⟨v', sx'', sm'', e1', e2', e3⟩ := hs_known (N := N) T.2.2.2.2.1 a
  rw [e1] at e1'
  rw [e2] at e2'
  cases e1'
  cases e2'
  exact hr_T_facts R.2.2.1 Id (kx.kp (by decide)) (km.kp (by decide)) (kx.kp (by decide)) (km.kp (by decide)) (hm_o_fc (by decide) km) T e3
theorem hs_op_36 (hc : hc_loc HC) (a1 a2 a3 a4 : Int32) (h4 : a4 = 0 ∨ a4 = 1) : hq_Sim (hR HC) (f_X11_see N a1 a2 a3 a4) (f_X12_see N a1 a2 a3 a4) := fun sx sm R => by
  have see : ∀ (nc nl ng nt t bar : Nat) (fr to on : Nat → Nat), hr_T nc nl ng nt t bar fr to on sx sm → ∃ v sx' sm', f_X11_see N a1 a2 a3 a4 sx = some (v, sx') ∧ f_X12_see N a1 a2 a3 a4 sm = some (v, sm') ∧ hr_facts nc nt sx' sm' := fun nc nl ng nt t bar fr to on T => by
    obtain ⟨⟨t1, t2, t3⟩, ⟨⟨b1, b2, b3, b4⟩, ⟨c1, c2, -, -, -, -, d1, d2⟩, -⟩, -, -, Fa, -⟩ := T
    exact hs_see (N := N) b1 b4 t1 t2 c1 c2 d1 d2 Fa a1 a2 a3 a4 h4
  obtain ⟨nc0, nl0, ng0, nt0, t0, bar0, fr0, to0, on0, T0⟩ := R.2.2.2.2.2
  obtain ⟨v, sx', sm', e1, e2, -⟩ := see _ _ _ _ _ _ _ _ _ T0
  have kx := f_X11_see_fw e1
  have km := f_X12_see_fw e2
  have Id := hr_idle_kp (km.kp (by decide)) R.2.2.1
  refine ⟨v, sx', sm', e1, e2, hR_gen hc R (hr_tape_kp (kx.kp (by decide)) (km.kp (by decide)) R.1) (hr_flt_kp (kx.kp (by decide)) (km.kp (by decide)) R.2.1) Id (kx.kp (by decide)) fun nc nl ng nt t bar fr to on T => ⟨bar, ?_⟩⟩
  obtain ⟨v', sx'', sm'', e1', e2', e3⟩ := see _ _ _ _ _ _ _ _ _ T
  rw [e1] at e1'
  rw [e2] at e2'
  cases e1'
  cases e2'
  exact hr_T_facts R.2.2.1 Id (kx.kp (by decide)) (km.kp (by decide)) (kx.kp (by decide)) (km.kp (by decide)) (hm_o_fc (by decide) km) T e3
end
