/-! FAR, REACH, PARTS, RESTS, REST -/
section
variable {N nc nl ng nt t bar : Nat} {fr to on : Nat → Nat} {sx sm : hq_S}
theorem hp_lays (hN : 100 < N) (I : hr_idle sm) (T : hr_T nc nl ng nt t bar fr to on sx sm) : ∃ sl, f_X12_lays N 0 sm = some sl ∧ hl_R nc (ly_nx fr to on bar false nl) sl ∧ (∀ a b, a < nc → b < nc → hq_gi sl 207 (10 * a + b) = Int32.ofNat (bf_far (ly_nx fr to on bar false nl) nc a b)) ∧ ∀ c i, c < 206 → hq_gi sl c i = hq_gi sm c i := by
  obtain ⟨-, -, ⟨X, M, S, F, B, Bl⟩, -⟩ := T
  obtain ⟨g, f, e1, e2, e3⟩ := hm_lays (N := N) (l := 0) (both := false) (by omega) hN (by rw [I.1]; decide) B (by omega) M
  have e1 : f_X12_lays N 0 sm = some (hq_w (hq_w sm 206 g) 207 f) := e1
  have em : ∀ c i, c < 206 → hq_gi (hq_w (hq_w sm 206 g) 207 f) c i = hq_gi sm c i := fun c i hc => by rw [hw_n (by omega), hw_n (by omega)]
  refine ⟨_, e1, ⟨by rw [em _ _ (by omega)]; exact M.2.2.1, fun c hc => ?_⟩, fun a b ha hb => ?_, em⟩
  · rw [hw_n (by omega), hw_g]; exact e2 c hc
  · rw [hw_g]; exact e3 a b ha hb
/-- what is reached -/
def rc_m (f : Nat → Nat) : Nat → Nat
  | 0 => 0
  | c + 1 => rc_m f c ||| (if f c = 99 then 0 else 2 ^ c)
theorem rc_m_lt (f : Nat → Nat) (n : Nat) : rc_m f n < 2 ^ n := by
  induction n with
  | zero => exact Nat.one_pos
  | succ n ih =>
    rw [rc_m]
    refine nb_lt_or (Nat.lt_trans ih (nb_2lt (by omega))) ?_
    split
    · exact Nat.two_pow_pos _
    · exact nb_2lt (by omega)
theorem rc_m_t (f : Nat → Nat) (n i : Nat) : (rc_m f n).testBit i = (decide (i < n) && !decide (f i = 99)) := by
  induction n with
  | zero => rw [rc_m, Nat.zero_testBit]; rfl
  | succ n ih =>
    rw [rc_m, Nat.testBit_or, ih]
    by_cases q : i = n
    · subst q
      rw [decide_eq_false (show ¬ i < i by omega), decide_eq_true (show i < i + 1 by omega)]
      by_cases q2 : f i = 99
      · rw [if_pos q2, Nat.zero_testBit, decide_eq_true q2]; rfl
      · rw [if_neg q2, nb_2p, decide_eq_true rfl, decide_eq_false q2]; rfl
    · have e : (if f n = 99 then 0 else 2 ^ n).testBit i = false := by
        split
        · exact Nat.zero_testBit i
        · rw [nb_2p]; exact decide_eq_false (fun h => q h.symm)
      rw [e, Bool.or_false]
      by_cases q2 : i < n
      · rw [decide_eq_true q2, decide_eq_true (show i < n + 1 by omega)]
      · rw [decide_eq_false q2, decide_eq_false (show ¬ i < n + 1 by omega)]
theorem hb_reach {nx : Nat → Nat} {fa : Nat → Nat → Nat} (hN : 10 < N) (hnc : nc ≤ 10) (X : hl_S 103 nc nx sx) (F : ∀ a b, a < nc → b < nc → hq_gi sx 105 (10 * a + b) = Int32.ofNat (fa a b)) (hF : ∀ a b, fa a b ≤ 99) {a : Nat} (ha : a < nc) : f_X8_reached N 103 (Int32.ofNat a) sx = some (Int32.ofNat (rc_m (fa a) nc), sx) := by
  have key : ∀ (q j m : Nat), j + q = nc → q < m → f_X8_reached_L4 N m 103 (Int32.ofNat a) (Int32.ofNat (rc_m (fa a) j)) (Int32.ofNat j) sx = some (Int32.ofNat (rc_m (fa a) nc), sx) := by
    intro q
    induction q with
    | zero =>
      intro j m hj hm
      obtain ⟨m, rfl⟩ : ∃ k, m = k + 1 := ⟨m - 1, by omega⟩
      have hj : j = nc := by omega
      subst hj
      have c : ¬ Int32.ofNat j < Int32.ofNat j := by rw [nn_lt (by omega) (by omega)]; omega
      simp only [f_X8_reached_L4_s, f_X8_reached_L4_B, X.1, if_neg c]
    | succ q ih =>
      intro j m hj hm
      obtain ⟨m, rfl⟩ : ∃ k, m = k + 1 := ⟨m - 1, by omega⟩
      have c : Int32.ofNat j < Int32.ofNat nc := (nn_lt (by omega) (by omega)).mpr (by omega)
      have lx : hq_ld sx (103 + 2) 100 (Int32.ofNat (10 * a + j)) = some (Int32.ofNat (fa a j)) := by rw [nn_ld (by omega) (by omega)]; exact congrArg some (F a j ha (by omega))
      have ih := ih (j + 1) m (by omega) (by omega)
      have hf := hF a j
      simp only [f_X8_reached_L4_s, f_X8_reached_L4_B, f_X8_lanesBetween, X.1, if_pos c, nb_10m, nb_add, lx, Option.bind_some, nb_one (show j < 32 by omega), nn_succ]
      by_cases q2 : fa a j = 99
      · have c2 : ¬ Int32.ofNat (fa a j) < (99 : Int32) := by rw [nb_lit 99, nn_lt (by omega) (by omega)]; omega
        rw [rc_m, if_pos q2] at ih
        rw [if_neg c2, Option.bind_some, nb_0, nb_or]
        exact ih
      · have c2 : Int32.ofNat (fa a j) < (99 : Int32) := by rw [nb_lit 99, nn_lt (by omega) (by omega)]; omega
        rw [rc_m, if_neg q2] at ih
        rw [if_pos c2, Option.bind_some, nb_or]
        exact ih
  exact key nc 0 N (by omega) (by omega)
theorem hm_reach {nx : Nat → Nat} {fa : Nat → Nat → Nat} (hN : 10 < N) (hnc : nc ≤ 10) (R : hl_R nc nx sm) (F : ∀ a b, a < nc → b < nc → hq_gi sm 207 (10 * a + b) = Int32.ofNat (fa a b)) (hF : ∀ a b, fa a b ≤ 99) {a : Nat} (ha : a < nc) : f_X12_reachOf N (Int32.ofNat a) sm = some (Int32.ofNat (rc_m (fa a) nc), sm) := by
  have l0 : hq_ld sm 176 14 0 = some (Int32.ofNat nc) := by rw [nb_0, nn_ld (by omega) (by omega), R.1]
  have key : ∀ (q j m : Nat), j + q = nc → q < m → f_X12_reachOf_L4 N m (Int32.ofNat a) (Int32.ofNat (rc_m (fa a) j)) (Int32.ofNat j) sm = some (Int32.ofNat (rc_m (fa a) nc), sm) := by
    intro q
    induction q with
    | zero =>
      intro j m hj hm
      obtain ⟨m, rfl⟩ : ∃ k, m = k + 1 := ⟨m - 1, by omega⟩
      have hj : j = nc := by omega
      subst hj
      have c : ¬ Int32.ofNat j < Int32.ofNat j := by rw [nn_lt (by omega) (by omega)]; omega
      simp only [f_X12_reachOf_L4_s, f_X12_reachOf_L4_B, l0, Option.bind_some, if_neg c]
    | succ q ih =>
      intro j m hj hm
      obtain ⟨m, rfl⟩ : ∃ k, m = k + 1 := ⟨m - 1, by omega⟩
      have c : Int32.ofNat j < Int32.ofNat nc := (nn_lt (by omega) (by omega)).mpr (by omega)
      have lx : hq_ld sm 207 100 (Int32.ofNat (10 * a + j)) = some (Int32.ofNat (fa a j)) := by rw [nn_ld (by omega) (by omega), F a j ha (by omega)]
      have ih := ih (j + 1) m (by omega) (by omega)
      have hf := hF a j
      simp only [f_X12_reachOf_L4_s, f_X12_reachOf_L4_B, l0, Option.bind_some, if_pos c, nb_m10, nb_add, lx, nb_one (show j < 32 by omega), nn_succ]
      by_cases q2 : fa a j = 99
      · have c2 : Int32.ofNat (fa a j) = (99 : Int32) := by rw [q2]; rfl
        rw [rc_m, if_pos q2] at ih
        rw [if_pos c2, Option.bind_some, nb_0, nb_or]
        exact ih
      · have c2 : ¬ Int32.ofNat (fa a j) = (99 : Int32) := fun h => q2 ((nn_inj (by omega) (by omega : 99 < 2147483648)).mp h)
        rw [rc_m, if_neg q2] at ih
        rw [if_neg c2, Option.bind_some, nb_or]
        exact ih
  exact key nc 0 N (by omega) (by omega)
/-- two bits of two sets at once -/
theorem nb_two {m1 m2 i j : Nat} (h1 : m1 < 2147483648) (h2 : m2 < 2147483648) (hi : i < 32) (hj : j < 32) : (((Int32.ofNat m1 >>> (Int32.ofNat i &&& 31)) &&& (Int32.ofNat m2 >>> (Int32.ofNat j &&& 31))) &&& (1 : Int32) = 0) = ¬ (m1.testBit i = true ∧ m2.testBit j = true) := by
  rw [nb_shr h1 hi, nb_shr h2 hj, nb_and, nb_and1, nb_eq0 (by omega)]
  have e : ((m1 / 2 ^ i) &&& (m2 / 2 ^ j)).testBit 0 = (m1.testBit i && m2.testBit j) := by
    rw [Nat.testBit_and, Nat.testBit_div_two_pow, Nat.testBit_div_two_pow, Nat.zero_add, Nat.zero_add]
  rw [Nat.testBit_zero] at e
  apply propext
  constructor
  · rintro h ⟨q1, q2⟩
    rw [q1, q2, h] at e
    revert e
    decide
  · intro h
    have h3 : ¬ ((m1 / 2 ^ i) &&& (m2 / 2 ^ j)) % 2 = 1 := by
      intro q
      rw [q] at e
      apply h
      cases a : m1.testBit i <;> cases b : m2.testBit j <;> rw [a, b] at e <;> revert e <;> decide
    omega
end
section
variable {HC : hq_S → Prop} {N : Nat}
theorem hs_op_15 (hc : hc_loc HC) (hN : 300 < N) (a1 a2 : Int32) : hq_Sim (hR HC) (f_X11_far N a1 a2) (f_X12_far N a1 a2) := hs_mk hc (WX := w_X11_far) (WM := w_X12_far) (by decide) (by decide) (by decide) (fun _ _ => f_X11_far_fw) (fun _ _ => f_X12_far_fw) fun sx sm R => by
  obtain ⟨nc, nl, ng, nt, t, bar, fr, to, on, TT⟩ := R.2.2.2.2.2
  obtain ⟨I, T⟩ := hT_th 0 R.2.2.1 TT
  obtain ⟨sl, l1, lR, lF, -⟩ := hp_lays (N := N) (by omega) I T
  obtain ⟨⟨t1, t2, t3⟩, ⟨⟨b1, b2, b3, b4⟩, ⟨c1, c2, -⟩, -⟩, ⟨X, M, S, F, B, Bl⟩, -⟩ := T
  have d10 : ¬ (1 : Int32) = 0 := by decide
  rcases hs_isCorner (N := N) (a := a1) (by omega) t1 t2 c1 c2 with ⟨a, ha, rfl, e1, e2⟩ | ⟨e1, e2⟩
  · rcases hs_isCorner (N := N) (a := a2) (by omega) t1 t2 c1 c2 with ⟨b, hb, rfl, f1, f2⟩ | ⟨f1, f2⟩
    · have lx : hq_ld sx (103 + 2) 100 (Int32.ofNat (10 * a + b)) = some (Int32.ofNat (bf_far (ly_nx fr to on bar false nl) nc a b)) := by rw [nn_ld (by omega) (by omega)]; exact congrArg some (F a b ha hb)
      have lm : hq_ld sl 207 100 (Int32.ofNat (10 * a + b)) = some (Int32.ofNat (bf_far (ly_nx fr to on bar false nl) nc a b)) := by rw [nn_ld (by omega) (by omega), lF a b ha hb]
      exact ⟨Int32.ofNat (bf_far (ly_nx fr to on bar false nl) nc a b), sx, sl, by simp only [f_X11_far, f_X8_lanesBetween, e1, f1, Option.bind_some, if_neg d10, nb_10m, nb_add, lx], by simp only [f_X12_far, nn_pi, e2, f2, Option.bind_some, if_neg d10, l1, nb_m10, nb_add, lm]⟩
    · exact ⟨-1, sx, hq_si sm 174 0 0, by simp only [f_X11_far, e1, f1, Option.bind_some, if_neg d10, if_true], by simp only [f_X12_far, nn_pi, e2, f2, Option.bind_some, if_neg d10, if_true]⟩
  · exact ⟨-1, sx, hq_si sm 174 0 0, by simp only [f_X11_far, e1, Option.bind_some, if_true], by simp only [f_X12_far, nn_pi, e2, Option.bind_some, if_true]⟩
theorem hs_op_17 (hc : hc_loc HC) (hN : 300 < N) (a1 : Int32) : hq_Sim (hR HC) (f_X11_reach N a1) (f_X12_reach N a1) := hs_mk hc (WX := w_X11_reach) (WM := w_X12_reach) (by decide) (by decide) (by decide) (fun _ _ => f_X11_reach_fw) (fun _ _ => f_X12_reach_fw) fun sx sm R => by
  obtain ⟨nc, nl, ng, nt, t, bar, fr, to, on, TT⟩ := R.2.2.2.2.2
  obtain ⟨I, T⟩ := hT_th 0 R.2.2.1 TT
  obtain ⟨sl, l1, lR, lF, -⟩ := hp_lays (N := N) (by omega) I T
  obtain ⟨⟨t1, t2, t3⟩, ⟨⟨b1, b2, b3, b4⟩, ⟨c1, c2, -⟩, -⟩, ⟨X, M, S, F, B, Bl⟩, -⟩ := T
  have d10 : ¬ (1 : Int32) = 0 := by decide
  rcases hs_isCorner (N := N) (a := a1) (by omega) t1 t2 c1 c2 with ⟨a, ha, rfl, e1, e2⟩ | ⟨e1, e2⟩
  · have r1 := hb_reach (N := N) (by omega) b1 S F (bf_far_lt _ _) ha
    have r2 := hm_reach (N := N) (by omega) b1 lR lF (bf_far_lt _ _) ha
    exact ⟨_, sx, sl, by simp only [f_X11_reach, e1, Option.bind_some, if_neg d10, r1]; rfl, by simp only [f_X12_reach, nn_pi, e2, Option.bind_some, if_neg d10, l1, r2]⟩
  · exact ⟨-1, sx, hq_si sm 174 0 0, by simp only [f_X11_reach, e1, Option.bind_some, if_true], by simp only [f_X12_reach, nn_pi, e2, Option.bind_some, if_true]⟩
theorem hs_op_18 (hc : hc_loc HC) (hN : 300 < N) : hq_Sim (hR HC) (f_X11_parts N) (f_X12_parts N) := hs_mk hc (WX := w_X11_parts) (WM := w_X12_parts) (by decide) (by decide) (by decide) (fun _ _ => f_X11_parts_fw) (fun _ _ => f_X12_parts_fw) fun sx sm R => by
  obtain ⟨nc, nl, ng, nt, t, bar, fr, to, on, TT⟩ := R.2.2.2.2.2
  obtain ⟨I, T⟩ := hT_th 0 R.2.2.1 TT
  obtain ⟨sl, l1, lR, lF, -⟩ := hp_lays (N := N) (by omega) I T
  obtain ⟨⟨t1, t2, t3⟩, ⟨⟨b1, b2, b3, b4⟩, ⟨c1, c2, -⟩, -⟩, ⟨X, M, S, F, B, Bl⟩, -⟩ := T
  have l0 : hq_ld sl 176 14 0 = some (Int32.ofNat nc) := by rw [nb_0, nn_ld (by omega) (by omega), lR.1]
  have hF := bf_far_lt (ly_nx fr to on bar false nl) nc
  have FF := F
  have lFF := lF
  revert hF FF lFF
  generalize bf_far (ly_nx fr to on bar false nl) nc = fa
  intro hF FF lFF
  have lx : ∀ a b, a < nc → b < nc → hq_ld sx (103 + 2) 100 (Int32.ofNat (10 * a + b)) = some (Int32.ofNat (fa a b)) := fun a b ha hb => by rw [nn_ld (by omega) (by omega)]; exact congrArg some (FF a b ha hb)
  have rm : ∀ a, a < nc → f_X12_reachOf N (Int32.ofNat a) sl = some (Int32.ofNat (rc_m (fa a) nc), sl) := fun a ha => hm_reach (N := N) (by omega) b1 lR lFF hF ha
  have m1 : ∀ a, rc_m (fa a) nc < 2147483648 := fun a => by have := nb_1024 b1 (rc_m_lt (fa a) nc); omega
  have e99 : ∀ a b, (Int32.ofNat (fa a b) = (99 : Int32)) = (fa a b = 99) := fun a b => by have := hF a b; exact nb_eq (b := 99) (by omega) (by omega)
  have inner : ∀ (qX : Nat → Int32 → Int32 → hq_S → Option (Int32 × hq_S)) (qM : Int32 → Int32 → hq_S → Option (Int32 × hq_S)) (c : Nat), c < nc → ∀ (q e m m' : Nat) (p z : Int32), e + q = c → q < m → q < m' → ∃ z', f_X8_howManyParts_L17 N qX m 103 p (Int32.ofNat c) z (Int32.ofNat e) sx = qX 103 (p + z') (Int32.ofNat (c + 1)) sx ∧ f_X12_parts_L29 N qM m' p (Int32.ofNat c) z (Int32.ofNat e) sl = qM (p + z') (Int32.ofNat (c + 1)) sl := by
    intro qX qM c hc' q
    induction q with
    | zero =>
      intro e m m' p z he hm hm'
      obtain ⟨m, rfl⟩ : ∃ k, m = k + 1 := ⟨m - 1, by omega⟩
      obtain ⟨m', rfl⟩ : ∃ k, m' = k + 1 := ⟨m' - 1, by omega⟩
      have cc : ¬ Int32.ofNat e < Int32.ofNat c := by rw [nn_lt (by omega) (by omega)]; omega
      have ez : (if z = 0 then some (0 : Int32) else some 1) = some (if z = 0 then 0 else 1) := by split <;> rfl
      refine ⟨if z = 0 then 0 else 1, ?_, ?_⟩
      · simp only [f_X8_howManyParts_L17_s, f_X8_howManyParts_L17_B, if_neg cc, ez, Option.bind_some, nn_succ]
      · simp only [f_X12_parts_L29_s, f_X12_parts_L29_B, if_neg cc, ez, Option.bind_some, nn_succ]
    | succ q ih =>
      intro e m m' p z he hm hm'
      obtain ⟨m, rfl⟩ : ∃ k, m = k + 1 := ⟨m - 1, by omega⟩
      obtain ⟨m', rfl⟩ : ∃ k, m' = k + 1 := ⟨m' - 1, by omega⟩
      have cc : Int32.ofNat e < Int32.ofNat c := (nn_lt (by omega) (by omega)).mpr (by omega)
      obtain ⟨z', i1, i2⟩ := ih (e + 1) m m' p (z &&& (if fa c e = 99 ∨ fa e c = 99 then 1 else 0)) (by omega) (by omega) (by omega)
      have ra := rm c hc'
      have rb := rm e (by omega)
      have la := lx c e hc' (by omega)
      have lb := lx e c (by omega) hc'
      have tw := nb_two (i := e) (j := c) (m1 c) (m1 e) (by omega) (by omega)
      have tb : (¬ ((rc_m (fa c) nc).testBit e = true ∧ (rc_m (fa e) nc).testBit c = true)) ↔ (fa c e = 99 ∨ fa e c = 99) := by
        rw [rc_m_t, rc_m_t, decide_eq_true (show e < nc by omega), decide_eq_true hc', Bool.true_and, Bool.true_and]
        by_cases h1 : fa c e = 99 <;> by_cases h2 : fa e c = 99 <;> simp [h1, h2]
      refine ⟨z', ?_, ?_⟩
      · rw [← i1]
        by_cases h1 : fa c e = 99
        · rw [if_pos (Or.inl h1)]
          simp only [f_X8_howManyParts_L17_s, f_X8_howManyParts_L17_B, f_X8_lanesBetween, if_pos cc, nb_10m, nb_add, la, Option.bind_some, e99, if_pos h1, nn_succ]
        · by_cases h2 : fa e c = 99
          · rw [if_pos (Or.inr h2)]
            simp only [f_X8_howManyParts_L17_s, f_X8_howManyParts_L17_B, f_X8_lanesBetween, if_pos cc, nb_10m, nb_add, la, lb, Option.bind_some, e99, if_neg h1, if_pos h2, nn_succ]
          · rw [if_neg (by rintro (h | h) <;> contradiction)]
            simp only [f_X8_howManyParts_L17_s, f_X8_howManyParts_L17_B, f_X8_lanesBetween, if_pos cc, nb_10m, nb_add, la, lb, Option.bind_some, e99, if_neg h1, if_neg h2, nn_succ]
      · rw [← i2]
        by_cases h : fa c e = 99 ∨ fa e c = 99
        · rw [if_pos h]
          simp only [f_X12_parts_L29_s, f_X12_parts_L29_B, if_pos cc, ra, rb, Option.bind_some, tw, if_pos (tb.mpr h), nn_succ]
        · rw [if_neg h]
          simp only [f_X12_parts_L29_s, f_X12_parts_L29_B, if_pos cc, ra, rb, Option.bind_some, tw, if_neg (fun q => h (tb.mp q)), nn_succ]
  have outer : ∀ (q j m m' : Nat) (p : Int32), j + q = nc → q < m → q < m' → ∃ v, f_X8_howManyParts_L4 N m 103 p (Int32.ofNat j) sx = some (v, sx) ∧ f_X12_parts_L14 N m' p (Int32.ofNat j) sl = some (v, sl) := by
    intro q
    induction q with
    | zero =>
      intro j m m' p hj hm hm'
      obtain ⟨m, rfl⟩ : ∃ k, m = k + 1 := ⟨m - 1, by omega⟩
      obtain ⟨m', rfl⟩ : ∃ k, m' = k + 1 := ⟨m' - 1, by omega⟩
      have cc : ¬ Int32.ofNat j < Int32.ofNat nc := by rw [nn_lt (by omega) (by omega)]; omega
      exact ⟨p, by simp only [f_X8_howManyParts_L4_s, f_X8_howManyParts_L4_B, S.1, if_neg cc], by simp only [f_X12_parts_L14_s, f_X12_parts_L14_B, l0, Option.bind_some, if_neg cc]⟩
    | succ q ih =>
      intro j m m' p hj hm hm'
      obtain ⟨m, rfl⟩ : ∃ k, m = k + 1 := ⟨m - 1, by omega⟩
      obtain ⟨m', rfl⟩ : ∃ k, m' = k + 1 := ⟨m' - 1, by omega⟩
      have cc : Int32.ofNat j < Int32.ofNat nc := (nn_lt (by omega) (by omega)).mpr (by omega)
      obtain ⟨z', i1, i2⟩ := inner (f_X8_howManyParts_L4 N m) (f_X12_parts_L14 N m') j (by omega) j 0 N N p 1 (by omega) (by omega) (by omega)
      obtain ⟨v, o1, o2⟩ := ih (j + 1) m m' (p + z') (by omega) (by omega) (by omega)
      refine ⟨v, ?_, ?_⟩
      · simp only [f_X8_howManyParts_L4_s, f_X8_howManyParts_L4_B, S.1, if_pos cc]
        rw [nb_0, i1]
        exact o1
      · simp only [f_X12_parts_L14_s, f_X12_parts_L14_B, l0, Option.bind_some, if_pos cc]
        rw [nb_0, i2]
        exact o2
  obtain ⟨v, o1, o2⟩ := outer nc 0 N N 0 (by omega) (by omega) (by omega)
  have o1 : f_X8_howManyParts N 103 sx = some (v, sx) := o1
  refine ⟨v, sx, sl, ?_, ?_⟩
  · simp only [f_X11_parts, o1, Option.bind_some]
  · simp only [f_X12_parts, nn_pi, Option.bind_some, l1]
    exact o2
end
