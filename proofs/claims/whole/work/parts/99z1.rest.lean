/-! RESTS, REST, HOLDS -/
theorem nn_idiv {x y : Int32} (h : ¬ y = 0) : hq_idiv x y = some (x / y) := by
  unfold hq_idiv
  rw [decide_eq_false h]
  rfl
section
variable {HC : hq_S → Prop} {N nc ng nt : Nat} {sx sm : hq_S}
theorem hh_gain (hnt : nt ≤ 4) (I : hr_idle sm) (W : hn_N nc ng nt 76 0 sx sm) {i j : Nat} (hi : i < nt) (hj : j < nt) (a b : Int32) : ∃ v, f_X11_gain N (Int32.ofNat i) (Int32.ofNat j) a b sx = some (v, sx) ∧ f_X12_hasOf N (Int32.ofNat i) (Int32.ofNat j) a b sm = some (v, sm) := by
  obtain ⟨-, ⟨bo, hbo, bx, bm⟩, hx, -⟩ := W.2.2.2.2.2.2.1 i hi
  obtain ⟨-, -, hy, -⟩ := W.2.2.2.2.2.2.1 j hj
  rw [hn_bold_i I (by omega)] at bm
  rw [show 4 * 0 + i = i by omega] at hx
  rw [show 4 * 0 + j = j by omega] at hy
  have l1 : hq_ld sx 82 4 (Int32.ofNat i) = some (Int32.ofNat bo) := by rw [nn_ld (by omega) (by omega)]; exact congrArg some bx
  have l2 : hq_ld sm 189 8 (Int32.ofNat i) = some (Int32.ofNat bo) := by rw [nn_ld (by omega) (by omega), bm]
  have l3 : hq_ld sx 83 4 (Int32.ofNat i) = some (hq_gi sm 204 i) := by rw [nn_ld (by omega) (by omega)]; exact congrArg some hx
  have l4 : hq_ld sx 83 4 (Int32.ofNat j) = some (hq_gi sm 204 j) := by rw [nn_ld (by omega) (by omega)]; exact congrArg some hy
  have l5 : hq_ld sm 204 92 (Int32.ofNat i) = some (hq_gi sm 204 i) := nn_ld (by omega) (by omega)
  have l6 : hq_ld sm 204 92 (Int32.ofNat j) = some (hq_gi sm 204 j) := nn_ld (by omega) (by omega)
  have v4 : ∀ x : Int32, hq_idiv x 4 = some (x / 4) := fun x => nn_idiv (by decide)
  have v100 : ∀ x : Int32, hq_idiv x 100 = some (x / 100) := fun x => nn_idiv (by decide)
  unfold f_X11_gain f_X12_hasOf
  simp only [l1, l2, l3, l4, l5, l6, v4, v100, Option.bind_some]
  by_cases qa : a = 0
  · by_cases qb : b = 0
    · exact ⟨_, by rw [if_pos qa, if_pos qb], by rw [if_pos qa, if_pos qb]⟩
    · exact ⟨_, by rw [if_pos qa, if_neg qb], by rw [if_pos qa, if_neg qb]⟩
  · by_cases qb : b = 0
    · exact ⟨_, by rw [if_neg qa, if_pos qb], by rw [if_neg qa, if_pos qb]⟩
    · exact ⟨_, by rw [if_neg qa, if_neg qb], by rw [if_neg qa, if_neg qb]⟩
theorem hh_isRest (hnt : nt ≤ 4) (I : hr_idle sm) (W : hn_N nc ng nt 76 0 sx sm) {i j : Nat} (hi : i < nt) (hj : j < nt) (p : Int32) : ∃ b : Int32, (b = 0 ∨ b = 1) ∧ f_X11_isRest N (Int32.ofNat i) (Int32.ofNat j) p sx = some (b, sx) ∧ f_X12_isRest N (Int32.ofNat i) (Int32.ofNat j) p sm = some (b, sm) := by
  have v2 : hq_idiv p 2 = some (p / 2) := nn_idiv (by decide)
  have r2 : hq_irem p 2 = some (p - p / 2 * 2) := by
    unfold hq_irem
    rw [decide_eq_false (by decide)]
    rfl
  generalize p / 2 = x at v2 r2
  generalize p - x * 2 = y at r2
  obtain ⟨g1, a1, b1⟩ := hh_gain (N := N) hnt I W hi hj x y
  obtain ⟨g2, a2, b2⟩ := hh_gain (N := N) hnt I W hi hj ((1 : Int32) - x) y
  obtain ⟨g3, a3, b3⟩ := hh_gain (N := N) hnt I W hj hi y x
  obtain ⟨g4, a4, b4⟩ := hh_gain (N := N) hnt I W hj hi ((1 : Int32) - y) x
  unfold f_X11_isRest f_X12_isRest
  simp only [v2, r2, Option.bind_some, a1, a2, a3, a4, b1, b2, b3, b4]
  by_cases q1 : g1 < g2
  · exact ⟨0, Or.inl rfl, by rw [if_pos q1], by rw [if_pos q1]⟩
  · by_cases q2 : g3 < g4
    · exact ⟨0, Or.inl rfl, by rw [if_neg q1, if_pos q2], by rw [if_neg q1, if_pos q2]⟩
    · exact ⟨1, Or.inr rfl, by rw [if_neg q1, if_neg q2], by rw [if_neg q1, if_neg q2]⟩
theorem hs_op_33 (hc : hc_loc HC) (hN : 300 < N) (a1 a2 : Int32) : hq_Sim (hR HC) (f_X11_rests N a1 a2) (f_X12_rests N a1 a2) := hs_mk hc (WX := w_X11_rests) (WM := w_X12_rests) (by decide) (by decide) (by decide) (fun _ _ => f_X11_rests_fw) (fun _ _ => f_X12_rests_fw) fun sx sm R => by
  obtain ⟨nc, nl, ng, nt, t, bar, fr, to, on, TT⟩ := R.2.2.2.2.2
  obtain ⟨I, T⟩ := hT_th 0 R.2.2.1 TT
  obtain ⟨⟨t1, t2, t3⟩, ⟨⟨b1, b2, b3, b4⟩, ⟨c1, c2, -, -, g1, g2, d1, d2⟩, -⟩, -, W, -⟩ := T
  have d10 : ¬ (1 : Int32) = 0 := by decide
  have n1 : ∀ n : Nat, n < 10 → ¬ Int32.ofNat n = -1 := fun n hn q => nn_nlt0 (a := n) (by omega) (by rw [q]; decide)
  rcases hs_isThief (N := N) (a := a1) (by omega) t1 t2 d1 d2 with ⟨i, hi, rfl, e1, e2⟩ | ⟨e1, e2⟩
  · rcases hs_isThief (N := N) (a := a2) (by omega) t1 t2 d1 d2 with ⟨j, hj, rfl, f1, f2⟩ | ⟨f1, f2⟩
    · by_cases q : Int32.ofNat i = Int32.ofNat j
      · exact ⟨-1, sx, hq_si sm 174 0 0, by simp only [f_X11_rests, e1, f1, Option.bind_some, if_neg d10, if_pos q], by simp only [f_X12_rests, f_X12_areTwo, nn_pi, e2, f2, Option.bind_some, if_neg d10, if_pos q, if_true]⟩
      · have key : ∀ (r p m m' n : Nat), p + r = 4 → r < m → r < m' → n ≤ p → ∃ v, f_X11_rests_L28 N m (Int32.ofNat i) (Int32.ofNat j) (Int32.ofNat n) (Int32.ofNat p) sx = some (v, sx) ∧ f_X12_restOf_L6 N m' (Int32.ofNat i) (Int32.ofNat j) (-1) (Int32.ofNat n) (Int32.ofNat p) (hq_si sm 174 0 0) = some (v, hq_si sm 174 0 0) := by
          intro r
          induction r with
          | zero =>
            intro p m m' n hp hm hm' hn
            obtain ⟨m, rfl⟩ : ∃ k, m = k + 1 := ⟨m - 1, by omega⟩
            obtain ⟨m', rfl⟩ : ∃ k, m' = k + 1 := ⟨m' - 1, by omega⟩
            have cc : ¬ Int32.ofNat p < (4 : Int32) := by rw [nb_lit 4, nn_lt (by omega) (by omega)]; omega
            exact ⟨Int32.ofNat n, by simp only [f_X11_rests_L28_s, f_X11_rests_L28_B, if_neg cc], by simp only [f_X12_restOf_L6_s, f_X12_restOf_L6_B, if_neg cc, if_true]⟩
          | succ r ih =>
            intro p m m' n hp hm hm' hn
            obtain ⟨m, rfl⟩ : ∃ k, m = k + 1 := ⟨m - 1, by omega⟩
            obtain ⟨m', rfl⟩ : ∃ k, m' = k + 1 := ⟨m' - 1, by omega⟩
            have cc : Int32.ofNat p < (4 : Int32) := by rw [nb_lit 4, nn_lt (by omega) (by omega)]; omega
            obtain ⟨b, hb, x1, x2⟩ := hh_isRest (N := N) b4 I W hi hj (Int32.ofNat p)
            rcases hb with rfl | rfl
            · obtain ⟨v, i1, i2⟩ := ih (p + 1) m m' n (by omega) (by omega) (by omega) (by omega)
              refine ⟨v, ?_, ?_⟩
              · simp only [f_X11_rests_L28_s, f_X11_rests_L28_B, if_pos cc, x1, Option.bind_some, if_true, Int32.add_zero, nn_succ]
                exact i1
              · simp only [f_X12_restOf_L6_s, f_X12_restOf_L6_B, f_X12_restOf_J48, if_pos cc, x2, Option.bind_some, if_true, nn_succ]
                exact i2
            · obtain ⟨v, i1, i2⟩ := ih (p + 1) m m' (n + 1) (by omega) (by omega) (by omega) (by omega)
              have nn1 := n1 n (by omega)
              refine ⟨v, ?_, ?_⟩
              · simp only [f_X11_rests_L28_s, f_X11_rests_L28_B, if_pos cc, x1, Option.bind_some, if_neg d10, nn_succ]
                exact i1
              · simp only [f_X12_restOf_L6_s, f_X12_restOf_L6_B, f_X12_restOf_J48, if_pos cc, x2, Option.bind_some, if_neg d10, if_neg nn1, nn_succ]
                exact i2
        obtain ⟨v, k1, k2⟩ := key 4 0 N N 0 (by omega) (by omega) (by omega) (by omega)
        have k2 : f_X12_restOf N (Int32.ofNat i) (Int32.ofNat j) (-1) (hq_si sm 174 0 0) = some (v, hq_si sm 174 0 0) := k2
        refine ⟨v, sx, hq_si sm 174 0 0, ?_, ?_⟩
        · simp only [f_X11_rests, e1, f1, Option.bind_some, if_neg d10, if_neg q]
          exact k1
        · simp only [f_X12_rests, f_X12_areTwo, nn_pi, e2, f2, Option.bind_some, if_neg d10, if_neg q, k2]
    · exact ⟨-1, sx, hq_si sm 174 0 0, by simp only [f_X11_rests, e1, f1, Option.bind_some, if_neg d10, if_true], by simp only [f_X12_rests, f_X12_areTwo, nn_pi, e2, f2, Option.bind_some, if_neg d10, if_true]⟩
  · exact ⟨-1, sx, hq_si sm 174 0 0, by simp only [f_X11_rests, e1, Option.bind_some, if_true], by simp only [f_X12_rests, f_X12_areTwo, nn_pi, e2, Option.bind_some, if_true]⟩
theorem hs_op_34 (hc : hc_loc HC) (hN : 300 < N) (a1 a2 a3 : Int32) : hq_Sim (hR HC) (f_X11_rest N a1 a2 a3) (f_X12_rest N a1 a2 a3) := hs_mk hc (WX := w_X11_rest) (WM := w_X12_rest) (by decide) (by decide) (by decide) (fun _ _ => f_X11_rest_fw) (fun _ _ => f_X12_rest_fw) fun sx sm R => by
  obtain ⟨nc, nl, ng, nt, t, bar, fr, to, on, TT⟩ := R.2.2.2.2.2
  obtain ⟨I, T⟩ := hT_th 0 R.2.2.1 TT
  obtain ⟨⟨t1, t2, t3⟩, ⟨⟨b1, b2, b3, b4⟩, ⟨c1, c2, -, -, g1, g2, d1, d2⟩, -⟩, -, W, -⟩ := T
  have d10 : ¬ (1 : Int32) = 0 := by decide
  rcases hs_isThief (N := N) (a := a1) (by omega) t1 t2 d1 d2 with ⟨i, hi, rfl, e1, e2⟩ | ⟨e1, e2⟩
  · rcases hs_isThief (N := N) (a := a2) (by omega) t1 t2 d1 d2 with ⟨j, hj, rfl, f1, f2⟩ | ⟨f1, f2⟩
    · by_cases q : Int32.ofNat i = Int32.ofNat j
      · exact ⟨-1, sx, hq_si sm 174 0 0, by simp only [f_X11_rest, e1, f1, Option.bind_some, if_neg d10, if_pos q], by simp only [f_X12_rest, f_X12_areTwo, nn_pi, e2, f2, Option.bind_some, if_neg d10, if_pos q, if_true]⟩
      · by_cases h0 : a3 < 0
        · exact ⟨-1, sx, hq_si sm 174 0 0, by simp only [f_X11_rest, e1, f1, Option.bind_some, if_neg d10, if_neg q, if_pos h0], by simp only [f_X12_rest, f_X12_areTwo, nn_pi, e2, f2, Option.bind_some, if_neg d10, if_neg q, if_pos h0]⟩
        · obtain ⟨k, hk, rfl⟩ := nI_of h0
          have hk : k < 2147483648 := by omega
          have h0 : ¬ Int32.ofNat k < 0 := h0
          have kn : ¬ Int32.ofNat k = -1 := fun z => h0 (by rw [z]; decide)
          have v2 : ∀ p : Int32, hq_idiv p 2 = some (p / 2) := fun p => nn_idiv (by decide)
          have r2 : ∀ p : Int32, hq_irem p 2 = some (p - p / 2 * 2) := fun p => by
            unfold hq_irem
            rw [decide_eq_false (by decide)]
            rfl
          have key : ∀ (r p m m' n : Nat), p + r = 4 → r < m → r < m' → n ≤ p → n ≤ k → ∃ v, f_X11_rest_L33 N m (Int32.ofNat i) (Int32.ofNat j) (Int32.ofNat k) (Int32.ofNat (k - n)) (Int32.ofNat p) sx = some (v, sx) ∧ f_X12_restOf_L6 N m' (Int32.ofNat i) (Int32.ofNat j) (Int32.ofNat k) (Int32.ofNat n) (Int32.ofNat p) (hq_si sm 174 0 0) = some (v, hq_si sm 174 0 0) := by
            intro r
            induction r with
            | zero =>
              intro p m m' n hp hm hm' hn hnk
              obtain ⟨m, rfl⟩ : ∃ k, m = k + 1 := ⟨m - 1, by omega⟩
              obtain ⟨m', rfl⟩ : ∃ k, m' = k + 1 := ⟨m' - 1, by omega⟩
              have cc : ¬ Int32.ofNat p < (4 : Int32) := by rw [nb_lit 4, nn_lt (by omega) (by omega)]; omega
              exact ⟨-2, by simp only [f_X11_rest_L33_s, f_X11_rest_L33_B, if_neg cc], by simp only [f_X12_restOf_L6_s, f_X12_restOf_L6_B, if_neg cc, if_neg kn]⟩
            | succ r ih =>
              intro p m m' n hp hm hm' hn hnk
              obtain ⟨m, rfl⟩ : ∃ k, m = k + 1 := ⟨m - 1, by omega⟩
              obtain ⟨m', rfl⟩ : ∃ k, m' = k + 1 := ⟨m' - 1, by omega⟩
              have cc : Int32.ofNat p < (4 : Int32) := by rw [nb_lit 4, nn_lt (by omega) (by omega)]; omega
              obtain ⟨b, hb, x1, x2⟩ := hh_isRest (N := N) b4 I W hi hj (Int32.ofNat p)
              have z0 := nb_eq0 (show k - n < 2147483648 by omega)
              have zk := nb_eq (show n < 2147483648 by omega) hk
              rcases hb with rfl | rfl
              · obtain ⟨v, i1, i2⟩ := ih (p + 1) m m' n (by omega) (by omega) (by omega) (by omega) hnk
                refine ⟨v, ?_, ?_⟩
                · simp only [f_X11_rest_L33_s, f_X11_rest_L33_B, f_X11_rest_J71, if_pos cc, x1, Option.bind_some, if_true, nn_succ]
                  exact i1
                · simp only [f_X12_restOf_L6_s, f_X12_restOf_L6_B, f_X12_restOf_J48, if_pos cc, x2, Option.bind_some, if_true, nn_succ]
                  exact i2
              · by_cases qn : n = k
                · have q0 : k - n = 0 := by omega
                  refine ⟨(10 : Int32) * (Int32.ofNat p / 2) + (Int32.ofNat p - Int32.ofNat p / 2 * 2), ?_, ?_⟩
                  · simp only [f_X11_rest_L33_s, f_X11_rest_L33_B, if_pos cc, x1, Option.bind_some, if_neg d10, z0, if_pos q0, v2, r2]
                    rw [Int32.mul_comm]
                  · simp only [f_X12_restOf_L6_s, f_X12_restOf_L6_B, if_pos cc, x2, Option.bind_some, if_neg d10, zk, if_pos qn, v2, r2]
                · have q0 : ¬ k - n = 0 := by omega
                  obtain ⟨v, i1, i2⟩ := ih (p + 1) m m' (n + 1) (by omega) (by omega) (by omega) (by omega) (by omega)
                  have dc : Int32.ofNat (k - n) + Int32.ofInt (-1) = Int32.ofNat (k - (n + 1)) := by
                    rw [show k - n = k - (n + 1) + 1 by omega]
                    exact nb_dec _
                  refine ⟨v, ?_, ?_⟩
                  · simp only [f_X11_rest_L33_s, f_X11_rest_L33_B, f_X11_rest_J71, if_pos cc, x1, Option.bind_some, if_neg d10, z0, if_neg q0, dc, nn_succ]
                    exact i1
                  · simp only [f_X12_restOf_L6_s, f_X12_restOf_L6_B, f_X12_restOf_J48, if_pos cc, x2, Option.bind_some, if_neg d10, zk, if_neg qn, nn_succ]
                    exact i2
          obtain ⟨v, k1, k2⟩ := key 4 0 N N 0 (by omega) (by omega) (by omega) (by omega) (by omega)
          rw [Nat.sub_zero] at k1
          have k2 : f_X12_restOf N (Int32.ofNat i) (Int32.ofNat j) (Int32.ofNat k) (hq_si sm 174 0 0) = some (v, hq_si sm 174 0 0) := k2
          have k3 : f_X11_rest N (Int32.ofNat i) (Int32.ofNat j) (Int32.ofNat k) sx = some (v, sx) := by
            simp only [f_X11_rest, e1, f1, Option.bind_some, if_neg d10, if_neg q, if_neg h0]
            exact k1
          have k4 : f_X12_rest N (Int32.ofNat i) (Int32.ofNat j) (Int32.ofNat k) sm = some (v, hq_si sm 174 0 0) := by
            simp only [f_X12_rest, f_X12_areTwo, nn_pi, e2, f2, Option.bind_some, if_neg d10, if_neg q, if_neg h0, k2]
          exact ⟨v, sx, hq_si sm 174 0 0, k3, k4⟩
    · exact ⟨-1, sx, hq_si sm 174 0 0, by simp only [f_X11_rest, e1, f1, Option.bind_some, if_neg d10, if_true], by simp only [f_X12_rest, f_X12_areTwo, nn_pi, e2, f2, Option.bind_some, if_neg d10, if_true]⟩
  · exact ⟨-1, sx, hq_si sm 174 0 0, by simp only [f_X11_rest, e1, Option.bind_some, if_true], by simp only [f_X12_rest, f_X12_areTwo, nn_pi, e2, Option.bind_some, if_true]⟩
end
