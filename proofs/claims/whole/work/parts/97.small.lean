/-! SMALL CALLS: what both answer -/
theorem nn_range {a : Int32} {n : Nat} (hn : n < 2147483648) : (∃ j : Nat, j < n ∧ a = Int32.ofNat j ∧ ¬ a < 0 ∧ a < Int32.ofNat n) ∨ a < 0 ∨ (¬ a < 0 ∧ ¬ a < Int32.ofNat n) := by
  by_cases h0 : a < 0
  · exact Or.inr (Or.inl h0)
  · have h1 : 0 ≤ a.toInt := by
      have : ¬ a.toInt < (0 : Int32).toInt := fun q => h0 (Int32.lt_iff_toInt_lt.mpr q)
      rw [show (0 : Int32).toInt = 0 from rfl] at this
      omega
    obtain ⟨j, hj, rfl⟩ := nn_of h1
    by_cases hl : j < n
    · exact Or.inl ⟨j, hl, rfl, h0, (nn_lt hj hn).mpr hl⟩
    · exact Or.inr (Or.inr ⟨h0, fun q => hl ((nn_lt hj hn).mp q)⟩)
theorem hs_isCorner {N n t : Nat} {a : Int32} {sx sm : hq_S} (hn : n < 1000) (ht : hq_gr sx 0 2 = t) (h2 : t = 2 ∨ t = 25) (hx : hq_gi sx t 0 = Int32.ofNat n) (hm : hq_gi sm 176 0 = Int32.ofNat n) : (∃ j : Nat, j < n ∧ a = Int32.ofNat j ∧ f_X11_isCorner N a sx = some (1, sx) ∧ f_X12_isCorner N a sm = some (1, sm)) ∨ (f_X11_isCorner N a sx = some (0, sx) ∧ f_X12_isCorner N a sm = some (0, sm)) := by
  have hT : hq_isT (hq_gr sx 0 2) := by rw [ht]; exact h2
  have hl : hq_ld sm 176 14 0 = some (Int32.ofNat n) := by
    rw [show (0 : Int32) = Int32.ofNat 0 from rfl, nn_ld (by omega) (by omega), hm]
  unfold f_X11_isCorner f_X12_isCorner
  rw [if_pos hT, hl, ht, hx]
  simp only [Option.bind_some]
  rcases nn_range (a := a) (n := n) (by omega) with ⟨j, hj, rfl, h0, h1⟩ | h0 | ⟨h0, h1⟩
  · exact Or.inl ⟨j, hj, rfl, by rw [if_neg h0, if_pos h1], by rw [if_neg h0, if_pos h1]⟩
  · exact Or.inr ⟨if_pos h0, if_pos h0⟩
  · exact Or.inr ⟨by rw [if_neg h0, if_neg h1], by rw [if_neg h0, if_neg h1]⟩
theorem hs_isLane {N n t : Nat} {a : Int32} {sx sm : hq_S} (hn : n < 1000) (ht : hq_gr sx 0 2 = t) (h2 : t = 2 ∨ t = 25) (hx : hq_gi sx t 3 = Int32.ofNat n) (hm : hq_gi sm 176 1 = Int32.ofNat n) : (∃ j : Nat, j < n ∧ a = Int32.ofNat j ∧ f_X11_isLane N a sx = some (1, sx) ∧ f_X12_isLane N a sm = some (1, sm)) ∨ (f_X11_isLane N a sx = some (0, sx) ∧ f_X12_isLane N a sm = some (0, sm)) := by
  have hT : hq_isT (hq_gr sx 0 2) := by rw [ht]; exact h2
  have hl : hq_ld sm 176 14 1 = some (Int32.ofNat n) := by
    rw [show (1 : Int32) = Int32.ofNat 1 from rfl, nn_ld (by omega) (by omega), hm]
  unfold f_X11_isLane f_X12_isLane
  rw [if_pos hT, hl, ht, hx]
  simp only [Option.bind_some]
  rcases nn_range (a := a) (n := n) (by omega) with ⟨j, hj, rfl, h0, h1⟩ | h0 | ⟨h0, h1⟩
  · exact Or.inl ⟨j, hj, rfl, by rw [if_neg h0, if_pos h1], by rw [if_neg h0, if_pos h1]⟩
  · exact Or.inr ⟨if_pos h0, if_pos h0⟩
  · exact Or.inr ⟨by rw [if_neg h0, if_neg h1], by rw [if_neg h0, if_neg h1]⟩
theorem hs_isGuard {N n t : Nat} {a : Int32} {sx sm : hq_S} (hn : n < 1000) (ht : hq_gr sx 0 2 = t) (h2 : t = 2 ∨ t = 25) (hx : hq_gi sx t 7 = Int32.ofNat n) (hm : hq_gi sm 176 2 = Int32.ofNat n) : (∃ j : Nat, j < n ∧ a = Int32.ofNat j ∧ f_X11_isGuard N a sx = some (1, sx) ∧ f_X12_isGuard N a sm = some (1, sm)) ∨ (f_X11_isGuard N a sx = some (0, sx) ∧ f_X12_isGuard N a sm = some (0, sm)) := by
  have hT : hq_isT (hq_gr sx 0 2) := by rw [ht]; exact h2
  have hl : hq_ld sm 176 14 2 = some (Int32.ofNat n) := by
    rw [show (2 : Int32) = Int32.ofNat 2 from rfl, nn_ld (by omega) (by omega), hm]
  unfold f_X11_isGuard f_X12_isGuard
  rw [if_pos hT, hl, ht, hx]
  simp only [Option.bind_some]
  rcases nn_range (a := a) (n := n) (by omega) with ⟨j, hj, rfl, h0, h1⟩ | h0 | ⟨h0, h1⟩
  · exact Or.inl ⟨j, hj, rfl, by rw [if_neg h0, if_pos h1], by rw [if_neg h0, if_pos h1]⟩
  · exact Or.inr ⟨if_pos h0, if_pos h0⟩
  · exact Or.inr ⟨by rw [if_neg h0, if_neg h1], by rw [if_neg h0, if_neg h1]⟩
theorem hs_isThief {N n t : Nat} {a : Int32} {sx sm : hq_S} (hn : n < 1000) (ht : hq_gr sx 0 2 = t) (h2 : t = 2 ∨ t = 25) (hx : hq_gi sx t 11 = Int32.ofNat n) (hm : hq_gi sm 176 3 = Int32.ofNat n) : (∃ j : Nat, j < n ∧ a = Int32.ofNat j ∧ f_X11_isThief N a sx = some (1, sx) ∧ f_X12_isThief N a sm = some (1, sm)) ∨ (f_X11_isThief N a sx = some (0, sx) ∧ f_X12_isThief N a sm = some (0, sm)) := by
  have hT : hq_isT (hq_gr sx 0 2) := by rw [ht]; exact h2
  have hl : hq_ld sm 176 14 3 = some (Int32.ofNat n) := by
    rw [show (3 : Int32) = Int32.ofNat 3 from rfl, nn_ld (by omega) (by omega), hm]
  unfold f_X11_isThief f_X12_isThief
  rw [if_pos hT, hl, ht, hx]
  simp only [Option.bind_some]
  rcases nn_range (a := a) (n := n) (by omega) with ⟨j, hj, rfl, h0, h1⟩ | h0 | ⟨h0, h1⟩
  · exact Or.inl ⟨j, hj, rfl, by rw [if_neg h0, if_pos h1], by rw [if_neg h0, if_pos h1]⟩
  · exact Or.inr ⟨if_pos h0, if_pos h0⟩
  · exact Or.inr ⟨by rw [if_neg h0, if_neg h1], by rw [if_neg h0, if_neg h1]⟩
/-- the town that is told, its counts -/
def hr_town (sx sm : hq_S) : Prop := ∃ nc nl ng nt t : Nat, hq_gr sx 0 2 = t ∧ (t = 2 ∨ t = 25) ∧ hr_told nc nl ng nt t sx sm ∧ hr_night nc ng nt 76 0 sx sm
theorem hs_fault {N : Nat} {sx sm : hq_S} (h : hr_flt sx sm) (a : Int32) : ∃ v sx' sm', f_X11_fault N a sx = some (v, sx') ∧ f_X12_fault N a sm = some (v, sm') := by
  obtain ⟨h1, h2⟩ := h
  unfold f_X11_fault f_X12_fault
  rw [nn_pi]
  simp only [Option.bind_some]
  rw [nn_gn (by omega), nn_gn (by omega), h1, h2]
  by_cases c0 : a = 0
  · exact ⟨_, _, _, if_pos c0, if_pos c0⟩
  · rw [if_neg c0, if_neg c0]
    by_cases c1 : a = 1
    · exact ⟨_, _, _, if_pos c1, if_pos c1⟩
    · exact ⟨_, _, _, if_neg c1, if_neg c1⟩
/-- the reference's thrown word doesn't matter -/
theorem hs_th {sm : hq_S} {k i : Nat} {x : Int32} (h : ¬ k = 174) : hq_gi (hq_si sm 174 0 x) k i = hq_gi sm k i := nn_gk h
theorem hs_guard {N : Nat} {sx sm : hq_S} (h : hr_town sx sm) (a b : Int32) : ∃ v sx' sm', f_X11_guard N a b sx = some (v, sx') ∧ f_X12_guard N a b sm = some (v, sm') := by
  obtain ⟨nc, nl, ng, nt, t, ht, h2, T, W⟩ := h
  obtain ⟨⟨-, -, hng, -⟩, ⟨-, -, -, -, g1, g2, -⟩, -, -, -, tg, -⟩ := T
  obtain ⟨-, -, -, -, -, wg, -⟩ := W
  unfold f_X11_guard f_X12_guard
  rw [nn_pi]
  simp only [Option.bind_some]
  rcases hs_isGuard (N := N) (a := a) (sx := sx) (sm := hq_si sm 174 0 0) (by omega) ht h2 g1 ((hs_th (by omega)).trans g2) with ⟨j, hj, rfl, e1, e2⟩ | ⟨e1, e2⟩
  · rw [e1, e2]
    simp only [Option.bind_some]
    obtain ⟨-, -, bl, hb, b1, b2, -⟩ := tg j hj
    obtain ⟨⟨c, hc, c1, c2⟩, ⟨m, hm, -, m1, m2⟩, k1⟩ := wg j hj
    have d0 : ¬ (1 : Int32) = 0 := by decide
    rw [if_neg d0, if_neg d0, nn_ld (by omega) (by omega), nn_ld (by omega) (by omega), nn_ld (by omega) (by omega), nn_ld (by omega) (by omega), nn_ld (by omega) (by omega), nn_ld (by omega) (by omega), nn_ld (by omega) (by omega), nn_ld (by omega) (by omega)]
    rw [hs_th (by omega), hs_th (by omega), hs_th (by omega), hs_th (by omega), if_pos (show hq_isT (hq_gr sx 0 2) by rw [ht]; exact h2), ht]
    simp only [Option.bind_some]
    have q0 : 3 * 0 + j = j := by omega
    rw [q0] at c2 m2 k1
    rw [c1, c2, b1, b2, m1, m2, k1]
    by_cases x0 : b = 0
    · exact ⟨_, _, _, if_pos x0, if_pos x0⟩
    · rw [if_neg x0, if_neg x0]
      by_cases x1 : b = 1
      · rw [if_pos x1, if_pos x1]
        by_cases x3 : Int32.ofNat bl = 0
        · exact ⟨_, _, _, if_pos x3, if_pos x3⟩
        · exact ⟨_, _, _, if_neg x3, if_neg x3⟩
      · rw [if_neg x1, if_neg x1]
        by_cases x2 : b = 2
        · exact ⟨_, _, _, if_pos x2, if_pos x2⟩
        · exact ⟨_, _, _, if_neg x2, if_neg x2⟩
  · rw [e1, e2]
    simp only [Option.bind_some]
    exact ⟨_, _, _, if_pos trivial, if_pos trivial⟩
theorem hs_thief {N : Nat} {sx sm : hq_S} (h : hr_town sx sm) (a b : Int32) : ∃ v sx' sm', f_X11_thief N a b sx = some (v, sx') ∧ f_X12_thief N a b sm = some (v, sm') := by
  obtain ⟨nc, nl, ng, nt, t, ht, h2, T, W⟩ := h
  obtain ⟨⟨-, -, hng, hnt⟩, ⟨-, -, -, -, -, -, g1, g2⟩, -⟩ := T
  obtain ⟨-, -, -, -, -, -, wt, -⟩ := W
  unfold f_X11_thief f_X12_thief
  rw [nn_pi]
  simp only [Option.bind_some]
  rcases hs_isThief (N := N) (a := a) (sx := sx) (sm := hq_si sm 174 0 0) (by omega) ht h2 g1 ((hs_th (by omega)).trans g2) with ⟨j, hj, rfl, e1, e2⟩ | ⟨e1, e2⟩
  · rw [e1, e2]
    simp only [Option.bind_some]
    obtain ⟨⟨c, hc, c1, c2⟩, b1, k1, f1⟩ := wt j hj
    have q0 : 4 * 0 + j = j := by omega
    rw [q0] at c2 k1 f1
    have d0 : ¬ (1 : Int32) = 0 := by decide
    have L4 : ∀ {s : hq_S} {k : Nat}, hq_ld s k 4 (Int32.ofNat j) = some (hq_gi s k j) := fun {s k} => nn_ld (by omega) (by omega)
    have L8 : ∀ {s : hq_S} {k : Nat}, hq_ld s k 8 (Int32.ofNat j) = some (hq_gi s k j) := fun {s k} => nn_ld (by omega) (by omega)
    have L92 : ∀ {s : hq_S} {k : Nat}, hq_ld s k 92 (Int32.ofNat j) = some (hq_gi s k j) := fun {s k} => nn_ld (by omega) (by omega)
    have hF : f_X12_isFree N 0 (Int32.ofNat j) (hq_si sm 174 0 0) = if hq_gi sm 205 j = -1 then some (1, hq_si sm 174 0 0) else some (0, hq_si sm 174 0 0) := by
      unfold f_X12_isFree
      rw [show (4 : Int32) * 0 + Int32.ofNat j = Int32.ofNat j from by rw [show (4 : Int32) * 0 = 0 from rfl, Int32.zero_add], L92]
      simp only [Option.bind_some]
      rw [hs_th (by omega)]
    rw [if_neg d0, if_neg d0]
    by_cases x0 : b = 0
    · rw [if_pos x0, if_pos x0, L4, L92]
      simp only [Option.bind_some]
      rw [hs_th (by omega), c1, c2]
      exact ⟨_, _, _, rfl, rfl⟩
    · rw [if_neg x0, if_neg x0]
      by_cases x1 : b = 1
      · rw [if_pos x1, if_pos x1, L4, L8]
        simp only [Option.bind_some]
        rw [hs_th (by omega), b1]
        exact ⟨_, _, _, rfl, rfl⟩
      · rw [if_neg x1, if_neg x1]
        by_cases x2 : b = 2
        · rw [if_pos x2, if_pos x2, L4, L92]
          simp only [Option.bind_some]
          rw [hs_th (by omega), k1]
          exact ⟨_, _, _, rfl, rfl⟩
        · rw [if_neg x2, if_neg x2]
          by_cases x3 : b = 3
          · rw [if_pos x3, if_pos x3, L4, hF]
            simp only [Option.bind_some]
            rcases f1 with ⟨u1, u2⟩ | ⟨g, hg, u1, u2⟩
            · rw [u1, if_pos u2]
              simp only [Option.bind_some]
              rw [if_neg d0]
              exact ⟨_, _, _, rfl, rfl⟩
            · rw [u1, if_neg (show ¬ hq_gi sm 205 j = -1 from by
                rw [u2]
                intro q
                have := nn_nlt0 (a := g) (by omega)
                rw [q] at this
                exact this (by decide))]
              simp only [Option.bind_some]
              rw [if_pos trivial, L92]
              simp only [Option.bind_some]
              rw [hs_th (by omega), u2]
              exact ⟨_, _, _, rfl, rfl⟩
          · rw [if_neg x3, if_neg x3]
            exact ⟨_, _, _, rfl, rfl⟩
  · rw [e1, e2]
    simp only [Option.bind_some]
    exact ⟨_, _, _, if_pos trivial, if_pos trivial⟩
