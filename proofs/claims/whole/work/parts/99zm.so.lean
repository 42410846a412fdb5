/-! ARE THE STANDING FACTS OF AN HOUR SO: both say alike -/
section
variable {N nc ng nt k K h : Nat} {li : Nat → Option Nat} {sx sm : hq_S}
theorem hb_so (hN : 100 < N) (hK : K ≤ k) (hk : k ≤ 24) (hh : h ≤ 60) (h4 : nt ≤ 4) (r2 : hq_gr sx 113 2 = 94) (k1 : hq_gi sx 163 0 = Int32.ofNat k) (Fa : ∀ i, i < k → (hr_lt i (hq_gi sx 168 i) (hq_gi sm 228 i) ∨ (hq_gi sx 168 i = -1 ∧ hq_gi sm 228 i = -1 ∧ (∃ a : Nat, 1 ≤ a ∧ a ≤ 60 ∧ hq_gi sx 164 i = Int32.ofNat a ∧ hq_gi sm 224 i = Int32.ofNat a) ∧ hr_lt nt (hq_gi sx 165 i) (hq_gi sm 225 i) ∧ hr_lt nc (hq_gi sx 166 i) (hq_gi sm 226 i) ∧ hr_nat 1 (hq_gi sx 167 i) (hq_gi sm 227 i)))) (hnc : nc ≤ 10) (W : ∀ i, i < nt → hr_lt nc (hq_gi sx 99 i) (hq_gi sm 203 (4 + i))) (HK : sd_K K sm) (X : sd_L K li 228 sm) (Y : ∀ i, i < K → hq_gi sm 229 i = if (sd li K K).1.testBit i = true then 1 else 0) : ∃ b : Int32, (b = 0 ∨ b = 1) ∧ f_X2_areSo N (Int32.ofNat (sd li K K).2) (Int32.ofNat h) sx = some (b, sx) ∧ f_X12_isSo N (Int32.ofNat h) sm = some (b, sm) := by
  have tl := (sd_lt (by omega) X K (Nat.le_refl _)).2
  have tb := sd_t X K (Nat.le_refl _)
  have km := sd_km (N := N) HK
  have iN : hq_isN 94 := by decide
  have d10 : ¬ (1 : Int32) = 0 := by decide
  generalize (sd li K K).2 = T at tl tb
  generalize (sd li K K).1 = O at tb Y
  -- the class goes on past what is known
  have past : ∀ (q j m : Nat), j + q = k → K ≤ j → q < m → f_X2_areSo_L3 N m (Int32.ofNat T) (Int32.ofNat h) (Int32.ofNat j) sx = some (1, sx) := by
    intro q
    induction q with
    | zero =>
      intro j m hj _ hm
      obtain ⟨m, rfl⟩ : ∃ k, m = k + 1 := ⟨m - 1, by omega⟩
      have c : ¬ Int32.ofNat j < Int32.ofNat k := by rw [nn_lt (by omega) (by omega)]; omega
      simp only [f_X2_areSo_L3_s, f_X2_areSo_L3_B, k1, if_neg c]
    | succ q ih =>
      intro j m hj hjK hm
      obtain ⟨m, rfl⟩ : ∃ k, m = k + 1 := ⟨m - 1, by omega⟩
      have c : Int32.ofNat j < Int32.ofNat k := (nn_lt (by omega) (by omega)).mpr (by omega)
      have b1 := nb_bit1 (show T < 2147483648 by omega) (show j < 32 by omega)
      have nb : ¬ T.testBit j = true := fun z => by have := (tb j).mp z; omega
      rw [← ih (j + 1) m (by omega) (by omega) (by omega)]
      simp only [f_X2_areSo_L3_s, f_X2_areSo_L3_B, f_X2_areSo_J83, k1, if_pos c, b1, if_neg nb, Option.bind_some, if_true, nn_succ]
  have key : ∀ (q j m m' : Nat), j + q = K → q + 24 < m → q < m' → ∃ b : Int32, (b = 0 ∨ b = 1) ∧ f_X2_areSo_L3 N m (Int32.ofNat T) (Int32.ofNat h) (Int32.ofNat j) sx = some (b, sx) ∧ f_X12_isSo_L2 N m' (Int32.ofNat h) (Int32.ofNat j) sm = some (b, sm) := by
    intro q
    induction q with
    | zero =>
      intro j m m' hj hm hm'
      obtain ⟨m', rfl⟩ : ∃ k, m' = k + 1 := ⟨m' - 1, by omega⟩
      have hj : j = K := by omega
      subst hj
      have c : ¬ Int32.ofNat j < Int32.ofNat j := by rw [nn_lt (by omega) (by omega)]; omega
      exact ⟨1, Or.inr rfl, past (k - j) j m (by omega) (Nat.le_refl _) (by omega), by simp only [f_X12_isSo_L2_s, f_X12_isSo_L2_B, km, Option.bind_some, if_neg c]⟩
    | succ q ih =>
      intro j m m' hj hm hm'
      obtain ⟨m, rfl⟩ : ∃ k, m = k + 1 := ⟨m - 1, by omega⟩
      obtain ⟨m', rfl⟩ : ∃ k, m' = k + 1 := ⟨m' - 1, by omega⟩
      have c1 : Int32.ofNat j < Int32.ofNat k := (nn_lt (by omega) (by omega)).mpr (by omega)
      have c2 : Int32.ofNat j < Int32.ofNat K := (nn_lt (by omega) (by omega)).mpr (by omega)
      have b1 := nb_bit1 (show T < 2147483648 by omega) (show j < 32 by omega)
      have l9 : hq_ld sm 229 24 (Int32.ofNat j) = some (hq_gi sm 229 j) := nn_ld (by omega) (by omega)
      have l8 : hq_ld sm 228 24 (Int32.ofNat j) = some (hq_gi sm 228 j) := nn_ld (by omega) (by omega)
      have y := Y j (by omega)
      obtain ⟨b, hb, i1, i2⟩ := ih (j + 1) m m' (by omega) (by omega) (by omega)
      by_cases q1 : T.testBit j = true
      · obtain ⟨-, -, t3, t4⟩ := (tb j).mp q1
        rw [if_neg (by rw [t3]; decide)] at y
        have e8 : hq_gi sm 228 j = -1 := by
          rcases X j (by omega) with ⟨-, e⟩ | ⟨n, -, e, -⟩
          · exact e
          · rw [t4] at e; cases e
        rcases Fa j (by omega) with ⟨n, hn, -, e⟩ | ⟨-, -, ⟨a, a1, a2, a3, a4⟩, ⟨g, g1, g2, g3⟩, ⟨p, p1, p2, p3⟩, ⟨v, v1, v2, v3⟩⟩
        · rw [e8] at e
          exact absurd (show Int32.ofNat n < 0 by rw [← e]; decide) (nn_nlt0 (by omega))
        · have l4 : hq_ld sx 164 24 (Int32.ofNat j) = some (Int32.ofNat a) := by rw [nn_ld (by omega) (by omega), a3]
          have m4 : hq_ld sm 224 24 (Int32.ofNat j) = some (Int32.ofNat a) := by rw [nn_ld (by omega) (by omega), a4]
          have ea := nb_eq (show a < 2147483648 by omega) (show h < 2147483648 by omega)
          by_cases q2 : a = h
          · obtain ⟨x, x1, x2, x3⟩ := W g g1
            have l5 : hq_ld sx 165 24 (Int32.ofNat j) = some (Int32.ofNat g) := by rw [nn_ld (by omega) (by omega), g2]
            have m5 : hq_ld sm 225 24 (Int32.ofNat j) = some (Int32.ofNat g) := by rw [nn_ld (by omega) (by omega), g3]
            have l6 : hq_ld sx 166 24 (Int32.ofNat j) = some (Int32.ofNat p) := by rw [nn_ld (by omega) (by omega), p2]
            have m6 : hq_ld sm 226 24 (Int32.ofNat j) = some (Int32.ofNat p) := by rw [nn_ld (by omega) (by omega), p3]
            have l7 : hq_ld sx 167 24 (Int32.ofNat j) = some (Int32.ofNat v) := by rw [nn_ld (by omega) (by omega), v2]
            have m7 : hq_ld sm 227 24 (Int32.ofNat j) = some (Int32.ofNat v) := by rw [nn_ld (by omega) (by omega), v3]
            have lp : hq_ld sx 99 4 (Int32.ofNat g) = some (Int32.ofNat x) := by rw [nn_ld (by omega) (by omega), x2]
            have mp : hq_ld sm 203 92 (Int32.ofNat (4 + g)) = some (Int32.ofNat x) := by rw [nn_ld (by omega) (by omega), x3]
            have ad : (4 : Int32) + Int32.ofNat g = Int32.ofNat (4 + g) := nb_add 4 g
            by_cases q3 : (if Int32.ofNat x = Int32.ofNat p then some (1 : Int32) else some (0 : Int32)) = some (Int32.ofNat v)
            · refine ⟨b, hb, ?_, ?_⟩
              · rw [← i1]
                simp only [f_X2_areSo_L3_s, f_X2_areSo_L3_B, f_X2_areSo_J83, f_X3_placeOfThief, k1, if_pos c1, b1, if_pos q1, l4, ea, if_pos q2, Option.bind_some, if_neg d10, l5, r2, if_pos iN, Nat.reduceAdd, lp, l6, q3, l7, if_true, nn_succ]
              · rw [← i2]
                simp only [f_X12_isSo_L2_s, f_X12_isSo_L2_B, f_X12_isSo_J80, km, if_pos c2, l9, y, l8, e8, m4, ea, if_pos q2, Option.bind_some, if_true, m5, ad, mp, m6, q3, m7, nn_succ]
            · obtain ⟨w, hw, hw2⟩ : ∃ w : Int32, (if Int32.ofNat x = Int32.ofNat p then some (1 : Int32) else some (0 : Int32)) = some w ∧ ¬ w = Int32.ofNat v := by
                by_cases q4 : Int32.ofNat x = Int32.ofNat p
                · rw [if_pos q4] at q3 ⊢
                  exact ⟨1, rfl, fun z => q3 (by rw [z])⟩
                · rw [if_neg q4] at q3 ⊢
                  exact ⟨0, rfl, fun z => q3 (by rw [z])⟩
              refine ⟨0, Or.inl rfl, ?_, ?_⟩
              · simp only [f_X2_areSo_L3_s, f_X2_areSo_L3_B, f_X3_placeOfThief, k1, if_pos c1, b1, if_pos q1, l4, ea, if_pos q2, Option.bind_some, if_neg d10, l5, r2, if_pos iN, Nat.reduceAdd, lp, l6, hw, l7, if_neg hw2]
              · simp only [f_X12_isSo_L2_s, f_X12_isSo_L2_B, km, if_pos c2, l9, y, l8, e8, m4, ea, if_pos q2, Option.bind_some, if_true, m5, ad, mp, m6, hw, m7, if_neg hw2]
          · refine ⟨b, hb, ?_, ?_⟩
            · rw [← i1]
              simp only [f_X2_areSo_L3_s, f_X2_areSo_L3_B, f_X2_areSo_J83, k1, if_pos c1, b1, if_pos q1, l4, ea, if_neg q2, Option.bind_some, if_true, nn_succ]
            · rw [← i2]
              simp only [f_X12_isSo_L2_s, f_X12_isSo_L2_B, f_X12_isSo_J80, km, if_pos c2, l9, y, l8, e8, m4, ea, if_neg q2, Option.bind_some, if_true, nn_succ]
      · refine ⟨b, hb, ?_, ?_⟩
        · rw [← i1]
          simp only [f_X2_areSo_L3_s, f_X2_areSo_L3_B, f_X2_areSo_J83, k1, if_pos c1, b1, if_neg q1, Option.bind_some, if_true, nn_succ]
        · rw [← i2]
          by_cases q5 : O.testBit j = true
          · rw [if_pos q5] at y
            simp only [f_X12_isSo_L2_s, f_X12_isSo_L2_B, f_X12_isSo_J80, km, if_pos c2, l9, y, if_neg d10, Option.bind_some, nn_succ]
          · rw [if_neg q5] at y
            have n8 : ¬ hq_gi sm 228 j = -1 := by
              rcases X j (by omega) with ⟨e, -⟩ | ⟨n, hn, -, e⟩
              · exact absurd ((tb j).mpr ⟨by omega, by omega, by cases z : O.testBit j with | true => exact absurd z q5 | false => rfl, e⟩) q1
              · rw [e]
                exact fun z => nn_nlt0 (a := n) (by omega) (by rw [z]; decide)
            simp only [f_X12_isSo_L2_s, f_X12_isSo_L2_B, f_X12_isSo_J80, km, if_pos c2, l9, y, l8, if_neg n8, if_true, Option.bind_some, nn_succ]
  exact key K 0 N N (by omega) (by omega) (by omega)
end
