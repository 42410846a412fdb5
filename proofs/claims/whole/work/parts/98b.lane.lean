/-! LANE -/
theorem nn_m31 {i : Nat} (h : i < 20) : Int32.ofNat i &&& 31 = Int32.ofNat i := by
  have : ∀ i, i < 20 → Int32.ofNat i &&& 31 = Int32.ofNat i := by decide
  exact this i h
theorem hs_lane {N : Nat} {sx sm : hq_S} (h : hr_town sx sm) (a b : Int32) : ∃ v sx' sm', f_X11_lane N a b sx = some (v, sx') ∧ f_X12_lane N a b sm = some (v, sm') := by
  obtain ⟨nc, nl, ng, nt, t, ht, h2, T, W⟩ := h
  obtain ⟨⟨-, hnl, -, -⟩, ⟨-, -, g1, g2, -⟩, -, -, tl, -⟩ := T
  obtain ⟨-, -, ⟨d, -, w1, w2⟩, -⟩ := W
  have hT : hq_isT (hq_gr sx 0 2) := by rw [ht]; exact h2
  unfold f_X11_lane f_X12_lane
  rw [nn_pi]
  simp only [Option.bind_some]
  rcases hs_isLane (N := N) (a := a) (sx := sx) (sm := hq_si sm 174 0 0) (by omega) ht h2 g1 ((hs_th (by omega)).trans g2) with ⟨j, hj, rfl, e1, e2⟩ | ⟨e1, e2⟩
  · rw [e1, e2]
    simp only [Option.bind_some]
    obtain ⟨⟨x, hx, x1, x2⟩, ⟨y, hy, y1, y2⟩, -, z1, -⟩ := tl j hj
    have d0 : ¬ (1 : Int32) = 0 := by decide
    have L20 : ∀ {s : hq_S} {k : Nat}, hq_ld s k 20 (Int32.ofNat j) = some (hq_gi s k j) := fun {s k} => nn_ld (by omega) (by omega)
    have L40 : ∀ {s : hq_S} {k : Nat}, hq_ld s k 40 (Int32.ofNat j) = some (hq_gi s k j) := fun {s k} => nn_ld (by omega) (by omega)
    have L23 : hq_ld (hq_si sm 174 0 0) 198 23 0 = some (hq_gi sm 198 0) := by
      rw [show (0 : Int32) = Int32.ofNat 0 from rfl, nn_ld (by omega) (by omega), hs_th (by omega)]
    rw [if_neg d0, if_neg d0]
    by_cases c0 : b = 0
    · refine ⟨Int32.ofNat x, sx, hq_si sm 174 0 0, ?_, ?_⟩
      · rw [if_pos c0, if_pos hT, ht, L20]
        simp only [Option.bind_some]
        rw [x1]
      · rw [if_pos c0, L40]
        simp only [Option.bind_some]
        rw [hs_th (by omega), x2]
    · rw [if_neg c0, if_neg c0]
      by_cases c1 : b = 1
      · refine ⟨Int32.ofNat y, sx, hq_si sm 174 0 0, ?_, ?_⟩
        · rw [if_pos c1, if_pos hT, ht, L20]
          simp only [Option.bind_some]
          rw [y1]
        · rw [if_pos c1, L40]
          simp only [Option.bind_some]
          rw [hs_th (by omega), y2]
      · rw [if_neg c1, if_neg c1]
        by_cases c2 : b = 2
        · refine ⟨hq_gi sm 182 j, sx, hq_si sm 174 0 0, ?_, ?_⟩
          · rw [if_pos c2, if_pos hT, ht, nn_m31 (show j < 20 by omega), z1]
          · rw [if_pos c2, L40]
            simp only [Option.bind_some]
            rw [hs_th (by omega)]
        · rw [if_neg c2, if_neg c2]
          by_cases c3 : b = 3
          · refine ⟨(Int32.ofNat d >>> (Int32.ofNat j &&& 31)) &&& 1, sx, hq_si sm 174 0 0, ?_, ?_⟩
            · rw [if_pos c3, w1]
            · rw [if_pos c3, L23]
              simp only [Option.bind_some]
              rw [w2]
          · rw [if_neg c3, if_neg c3]
            exact ⟨_, _, _, rfl, rfl⟩
  · rw [e1, e2]
    simp only [Option.bind_some]
    exact ⟨_, _, _, if_pos trivial, if_pos trivial⟩
