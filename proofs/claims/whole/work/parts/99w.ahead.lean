/-! AHEAD, GO, CHANCE -/
theorem nn_5 (a : Int32) : (a = 0 ∨ a = 1 ∨ a = 2 ∨ a = 3 ∨ a = 4) ∨ ((a < 0 ∨ (4 : Int32) < a) ∧ ¬ a = 0 ∧ ¬ a = 1 ∧ ¬ a = 2 ∧ ¬ a = 3 ∧ ¬ a = 4) := by
  rcases nn_le (a := a) (n := 4) (by omega) with ⟨j, hj, rfl, -, -⟩ | h | ⟨-, h⟩
  · rcases (show j = 0 ∨ j = 1 ∨ j = 2 ∨ j = 3 ∨ j = 4 by omega) with rfl | rfl | rfl | rfl | rfl
    · exact Or.inl (Or.inl rfl)
    · exact Or.inl (Or.inr (Or.inl rfl))
    · exact Or.inl (Or.inr (Or.inr (Or.inl rfl)))
    · exact Or.inl (Or.inr (Or.inr (Or.inr (Or.inl rfl))))
    · exact Or.inl (Or.inr (Or.inr (Or.inr (Or.inr rfl))))
  · refine Or.inr ⟨Or.inl h, ?_, ?_, ?_, ?_, ?_⟩ <;> rintro rfl <;> revert h <;> decide
  · refine Or.inr ⟨Or.inr h, ?_, ?_, ?_, ?_, ?_⟩ <;> rintro rfl <;> revert h <;> decide
section
variable {HC : hq_S → Prop} {N : Nat}
theorem hs_op_13 (hc : hc_loc HC) (hN : 300 < N) (a1 a2 a3 : Int32) : hq_Sim (hR HC) (f_X11_ahead N a1 a2 a3) (f_X12_ahead N a1 a2 a3) := hs_mk2 hc (WX := w_X11_ahead) (WM := w_X12_ahead) (by decide) (by decide) (fun _ _ => f_X11_ahead_fw) (fun _ _ => f_X12_ahead_fw) fun sx sm R => by
  have R1 := hR_th hc (x := 0) R
  obtain ⟨-, -, I, -, -, nc, nl, ng, nt, t, bar, fr, to, on, T⟩ := R1
  obtain ⟨⟨b1, b2, b3, b4⟩, ⟨c1, c2, -, -, g1, g2, d1, d2⟩, -⟩ := T.2.1
  have d10 : ¬ (1 : Int32) = 0 := by decide
  have oth : hm_o 1 sm (hq_si sm 174 0 0) := fun c i h1 h2 h3 => nn_gk (by omega)
  have play : ∀ n : Nat, n ≤ 200 → ∃ sx1 sm1 sx2 sm2, f_X11_playAsItGoes N sx = some sx1 ∧ f_X12_copies N 1 0 (hq_si sm 174 0 0) = some sm1 ∧ f_X3_passMany N (Int32.ofNat n) sx1 = some sx2 ∧ f_X12_goesOn N (Int32.ofNat n) sm1 = some sm2 ∧ hh_P nc nl ng nt t 103 94 1 fr to on bar false 0 (hq_si sm 174 0 0) sx2 sm2 ∧ hq_gr sx2 0 2 = t := fun n hn => by
    obtain ⟨sx1, sm1, p1, p2, P, r⟩ := hp_asItGoes (N := N) (by omega) I T
    obtain ⟨sx2, sm2, p3, p4, P2⟩ := hp_many hN hn P
    refine ⟨sx1, sm1, sx2, sm2, p1, p2, p3, p4, P2, ?_⟩
    rw [(f_X3_passMany_fw (u := 94) (Or.inr rfl) P.2.2.1.2.2 p3 0 2 (by decide)).2.2]
    exact r
  have n200 : (200 : Int32) = Int32.ofNat 200 := rfl
  rcases nn_5 a2 with (rfl | rfl | rfl | rfl | rfl) | ⟨hb, h0, h1, h2, h3, h4⟩
  · rcases nn_le (a := a1) (n := 200) (by omega) with ⟨n, hn, rfl, h0, h2⟩ | h0 | ⟨h0, h2⟩
    · obtain ⟨sx1, sm1, sx2, sm2, p1, p2, p3, p4, P, r⟩ := play n hn
      rw [← n200] at h2
      have O := hm_o_th P.2.2.2.2.2.2.2.2
      have iT : hq_isT t := T.1.2.1
      obtain ⟨v, v1, v2⟩ := hp_caught (N := N) (l := 1) (by omega) (by omega) P.1 P.2.2.2.2.2.2.1
      have v2 : f_X12_caughtOnes N 1 sm2 = some (v, sm2) := v2
      have ex := P.1.2.1.2.2.2.2.2.2.1
      exact ⟨v, sx2, sm2, by simp (config := {decide := true}) only [f_X11_ahead, f_X11_ahead_J50, f_X11_ahead_J65, Option.bind_some, if_neg h0, if_neg h2, p1, p3, reduceIte, r, if_pos iT, ex, v1], by simp (config := {decide := true}) only [f_X12_ahead, nn_pi, Option.bind_some, if_neg h0, if_neg h2, p2, p4, reduceIte, v2], O⟩
    · exact ⟨-1, sx, hq_si sm 174 0 0, by simp (config := {decide := true}) only [f_X11_ahead, Option.bind_some, if_pos h0, reduceIte], by simp (config := {decide := true}) only [f_X12_ahead, nn_pi, Option.bind_some, if_pos h0, reduceIte], oth⟩
    · rw [← n200] at h2
      exact ⟨-1, sx, hq_si sm 174 0 0, by simp (config := {decide := true}) only [f_X11_ahead, Option.bind_some, if_neg h0, if_pos h2, reduceIte], by simp (config := {decide := true}) only [f_X12_ahead, nn_pi, Option.bind_some, if_neg h0, if_pos h2, reduceIte], oth⟩
  · rcases hs_isThief (N := N) (a := a3) (by omega) T.1.1 T.1.2.1 d1 d2 with ⟨i, hi, rfl, e1, e2⟩ | ⟨e1, e2⟩
    · rcases nn_le (a := a1) (n := 200) (by omega) with ⟨n, hn, rfl, h0, h2⟩ | h0 | ⟨h0, h2⟩
      · obtain ⟨sx1, sm1, sx2, sm2, p1, p2, p3, p4, P, r⟩ := play n hn
        rw [← n200] at h2
        have O := hm_o_th P.2.2.2.2.2.2.2.2
        have iT : hq_isT t := T.1.2.1
        have hx := (P.2.2.2.2.2.2.1.2.2.2.2.2.2.1 i hi).2.2.1
        have lx : hq_ld sx2 101 4 (Int32.ofNat i) = some (hq_gi sm2 204 (4 * 1 + i)) := by rw [nn_ld (by omega) (by omega), hx]
        have lm : hq_ld sm2 204 92 ((4 : Int32) + Int32.ofNat i) = some (hq_gi sm2 204 (4 * 1 + i)) := by rw [nb_lit 4, nb_add, nn_ld (by omega) (by omega)]
        exact ⟨hq_gi sm2 204 (4 * 1 + i), sx2, sm2, by simp (config := {decide := true}) only [f_X11_ahead, f_X11_ahead_J50, f_X11_ahead_J65, Option.bind_some, if_neg h0, if_neg h2, e1, p1, p3, reduceIte, lx], by simp (config := {decide := true}) only [f_X12_ahead, nn_pi, Option.bind_some, if_neg h0, if_neg h2, e2, p2, p4, reduceIte, lm], O⟩
      · exact ⟨-1, sx, hq_si sm 174 0 0, by simp (config := {decide := true}) only [f_X11_ahead, Option.bind_some, if_pos h0, reduceIte], by simp (config := {decide := true}) only [f_X12_ahead, nn_pi, Option.bind_some, e2, if_pos h0, reduceIte], oth⟩
      · rw [← n200] at h2
        exact ⟨-1, sx, hq_si sm 174 0 0, by simp (config := {decide := true}) only [f_X11_ahead, Option.bind_some, if_neg h0, if_pos h2, reduceIte], by simp (config := {decide := true}) only [f_X12_ahead, nn_pi, Option.bind_some, e2, if_neg h0, if_pos h2, reduceIte], oth⟩
    · refine ⟨-1, sx, hq_si sm 174 0 0, ?_, ?_, oth⟩
      · by_cases h0 : a1 < 0
        · simp (config := {decide := true}) only [f_X11_ahead, Option.bind_some, if_pos h0, reduceIte]
        · by_cases h2 : (200 : Int32) < a1
          · simp (config := {decide := true}) only [f_X11_ahead, Option.bind_some, if_neg h0, if_pos h2, reduceIte]
          · simp (config := {decide := true}) only [f_X11_ahead, Option.bind_some, if_neg h0, if_neg h2, e1, reduceIte]
      · by_cases h0 : a1 < 0
        · simp (config := {decide := true}) only [f_X12_ahead, nn_pi, Option.bind_some, e2, if_pos h0, reduceIte]
        · by_cases h2 : (200 : Int32) < a1
          · simp (config := {decide := true}) only [f_X12_ahead, nn_pi, Option.bind_some, e2, if_neg h0, if_pos h2, reduceIte]
          · simp (config := {decide := true}) only [f_X12_ahead, nn_pi, Option.bind_some, e2, if_neg h0, if_neg h2, reduceIte]
  · rcases nn_le (a := a1) (n := 200) (by omega) with ⟨n, hn, rfl, h0, h2⟩ | h0 | ⟨h0, h2⟩
    · obtain ⟨sx1, sm1, sx2, sm2, p1, p2, p3, p4, P, r⟩ := play n hn
      rw [← n200] at h2
      have O := hm_o_th P.2.2.2.2.2.2.2.2
      have iT : hq_isT t := T.1.2.1
      obtain ⟨v, v1, v2⟩ := hp_loot (N := N) (l := 1) (by omega) (by omega) b1 P.2.2.2.2.2.2.1
      have v2 : f_X12_sumOf N 199 10 1 sm2 = some (v, sm2) := v2
      have ex := P.1.2.1.1
      exact ⟨v, sx2, sm2, by simp (config := {decide := true}) only [f_X11_ahead, f_X11_ahead_J50, f_X11_ahead_J65, Option.bind_some, if_neg h0, if_neg h2, p1, p3, reduceIte, r, if_pos iT, ex, v1], by simp (config := {decide := true}) only [f_X12_ahead, nn_pi, Option.bind_some, if_neg h0, if_neg h2, p2, p4, reduceIte, v2], O⟩
    · exact ⟨-1, sx, hq_si sm 174 0 0, by simp (config := {decide := true}) only [f_X11_ahead, Option.bind_some, if_pos h0, reduceIte], by simp (config := {decide := true}) only [f_X12_ahead, nn_pi, Option.bind_some, if_pos h0, reduceIte], oth⟩
    · rw [← n200] at h2
      exact ⟨-1, sx, hq_si sm 174 0 0, by simp (config := {decide := true}) only [f_X11_ahead, Option.bind_some, if_neg h0, if_pos h2, reduceIte], by simp (config := {decide := true}) only [f_X12_ahead, nn_pi, Option.bind_some, if_neg h0, if_pos h2, reduceIte], oth⟩
  · rcases hs_isGuard (N := N) (a := a3) (by omega) T.1.1 T.1.2.1 g1 g2 with ⟨i, hi, rfl, e1, e2⟩ | ⟨e1, e2⟩
    · rcases nn_le (a := a1) (n := 200) (by omega) with ⟨n, hn, rfl, h0, h2⟩ | h0 | ⟨h0, h2⟩
      · obtain ⟨sx1, sm1, sx2, sm2, p1, p2, p3, p4, P, r⟩ := play n hn
        rw [← n200] at h2
        have O := hm_o_th P.2.2.2.2.2.2.2.2
        have iT : hq_isT t := T.1.2.1
        obtain ⟨c, hcc, x1, x2⟩ := (P.2.2.2.2.2.2.1.2.2.2.2.2.1 i hi).1
        have lx : hq_ld sx2 96 3 (Int32.ofNat i) = some (Int32.ofNat c) := by rw [nn_ld (by omega) (by omega), x1]
        have lm : hq_ld sm2 200 69 ((3 : Int32) + Int32.ofNat i) = some (Int32.ofNat c) := by rw [nb_lit 3, nb_add, nn_ld (by omega) (by omega)]; exact congrArg some x2
        exact ⟨Int32.ofNat c, sx2, sm2, by simp (config := {decide := true}) only [f_X11_ahead, f_X11_ahead_J50, f_X11_ahead_J65, Option.bind_some, if_neg h0, if_neg h2, e1, p1, p3, reduceIte, lx], by simp (config := {decide := true}) only [f_X12_ahead, nn_pi, Option.bind_some, if_neg h0, if_neg h2, e2, p2, p4, reduceIte, lm], O⟩
      · exact ⟨-1, sx, hq_si sm 174 0 0, by simp (config := {decide := true}) only [f_X11_ahead, Option.bind_some, if_pos h0, reduceIte], by simp (config := {decide := true}) only [f_X12_ahead, nn_pi, Option.bind_some, e2, if_pos h0, reduceIte], oth⟩
      · rw [← n200] at h2
        exact ⟨-1, sx, hq_si sm 174 0 0, by simp (config := {decide := true}) only [f_X11_ahead, Option.bind_some, if_neg h0, if_pos h2, reduceIte], by simp (config := {decide := true}) only [f_X12_ahead, nn_pi, Option.bind_some, e2, if_neg h0, if_pos h2, reduceIte], oth⟩
    · refine ⟨-1, sx, hq_si sm 174 0 0, ?_, ?_, oth⟩
      · by_cases h0 : a1 < 0
        · simp (config := {decide := true}) only [f_X11_ahead, Option.bind_some, if_pos h0, reduceIte]
        · by_cases h2 : (200 : Int32) < a1
          · simp (config := {decide := true}) only [f_X11_ahead, Option.bind_some, if_neg h0, if_pos h2, reduceIte]
          · simp (config := {decide := true}) only [f_X11_ahead, f_X11_ahead_J50, Option.bind_some, if_neg h0, if_neg h2, e1, reduceIte]
      · by_cases h0 : a1 < 0
        · simp (config := {decide := true}) only [f_X12_ahead, nn_pi, Option.bind_some, e2, if_pos h0, reduceIte]
        · by_cases h2 : (200 : Int32) < a1
          · simp (config := {decide := true}) only [f_X12_ahead, nn_pi, Option.bind_some, e2, if_neg h0, if_pos h2, reduceIte]
          · simp (config := {decide := true}) only [f_X12_ahead, nn_pi, Option.bind_some, e2, if_neg h0, if_neg h2, reduceIte]
  · rcases hs_isThief (N := N) (a := a3) (by omega) T.1.1 T.1.2.1 d1 d2 with ⟨i, hi, rfl, e1, e2⟩ | ⟨e1, e2⟩
    · rcases nn_le (a := a1) (n := 200) (by omega) with ⟨n, hn, rfl, h0, h2⟩ | h0 | ⟨h0, h2⟩
      · obtain ⟨sx1, sm1, sx2, sm2, p1, p2, p3, p4, P, r⟩ := play n hn
        rw [← n200] at h2
        have O := hm_o_th P.2.2.2.2.2.2.2.2
        have iT : hq_isT t := T.1.2.1
        obtain ⟨c, hcc, x1, x2⟩ := (P.2.2.2.2.2.2.1.2.2.2.2.2.2.1 i hi).1
        have lx : hq_ld sx2 99 4 (Int32.ofNat i) = some (Int32.ofNat c) := by rw [nn_ld (by omega) (by omega), x1]
        have lm : hq_ld sm2 203 92 ((4 : Int32) + Int32.ofNat i) = some (Int32.ofNat c) := by rw [nb_lit 4, nb_add, nn_ld (by omega) (by omega)]; exact congrArg some x2
        exact ⟨Int32.ofNat c, sx2, sm2, by simp (config := {decide := true}) only [f_X11_ahead, f_X11_ahead_J50, f_X11_ahead_J65, Option.bind_some, if_neg h0, if_neg h2, e1, p1, p3, reduceIte, lx], by simp (config := {decide := true}) only [f_X12_ahead, nn_pi, Option.bind_some, if_neg h0, if_neg h2, e2, p2, p4, reduceIte, lm], O⟩
      · exact ⟨-1, sx, hq_si sm 174 0 0, by simp (config := {decide := true}) only [f_X11_ahead, Option.bind_some, if_pos h0, reduceIte], by simp (config := {decide := true}) only [f_X12_ahead, nn_pi, Option.bind_some, e2, if_pos h0, reduceIte], oth⟩
      · rw [← n200] at h2
        exact ⟨-1, sx, hq_si sm 174 0 0, by simp (config := {decide := true}) only [f_X11_ahead, Option.bind_some, if_neg h0, if_pos h2, reduceIte], by simp (config := {decide := true}) only [f_X12_ahead, nn_pi, Option.bind_some, e2, if_neg h0, if_pos h2, reduceIte], oth⟩
    · refine ⟨-1, sx, hq_si sm 174 0 0, ?_, ?_, oth⟩
      · by_cases h0 : a1 < 0
        · simp (config := {decide := true}) only [f_X11_ahead, Option.bind_some, if_pos h0, reduceIte]
        · by_cases h2 : (200 : Int32) < a1
          · simp (config := {decide := true}) only [f_X11_ahead, Option.bind_some, if_neg h0, if_pos h2, reduceIte]
          · simp (config := {decide := true}) only [f_X11_ahead, Option.bind_some, if_neg h0, if_neg h2, e1, reduceIte]
      · by_cases h0 : a1 < 0
        · simp (config := {decide := true}) only [f_X12_ahead, nn_pi, Option.bind_some, e2, if_pos h0, reduceIte]
        · by_cases h2 : (200 : Int32) < a1
          · simp (config := {decide := true}) only [f_X12_ahead, nn_pi, Option.bind_some, e2, if_neg h0, if_pos h2, reduceIte]
          · simp (config := {decide := true}) only [f_X12_ahead, nn_pi, Option.bind_some, e2, if_neg h0, if_neg h2, reduceIte]
  · refine ⟨-1, sx, hq_si sm 174 0 0, ?_, ?_, oth⟩
    · have z : (if a2 = (1 : Int32) then some (1 : Int32) else if a2 = (4 : Int32) then some (1 : Int32) else some (0 : Int32)) = some 0 := by rw [if_neg h1, if_neg h4]
      simp only [f_X11_ahead, z, Option.bind_some]
      by_cases k0 : a1 < 0
      · rw [if_pos k0]
      · rw [if_neg k0]
        by_cases k2 : (200 : Int32) < a1
        · rw [if_pos k2]
        · rw [if_neg k2]
          by_cases k3 : a2 < 0
          · rw [if_pos k3]
          · rw [if_neg k3, if_pos (hb.resolve_left k3)]
    · simp only [f_X12_ahead, nn_pi, Option.bind_some, if_neg h0, if_neg h1, if_neg h2, if_neg h3, if_neg h4, reduceIte]
      by_cases k0 : a1 < 0
      · rw [if_pos k0]
      · rw [if_neg k0]
        by_cases k2 : (200 : Int32) < a1
        · rw [if_pos k2]
        · rw [if_neg k2]
end
