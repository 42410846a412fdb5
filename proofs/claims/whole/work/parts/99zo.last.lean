/-! THE REFERENCE'S LAST HOUR; an hour of which nothing stands -/
section
variable {N k K : Nat} {sx sm : hq_S} {a1 : Int32}
theorem lh_M (hK : K ≤ 24) {O : Nat} {hr : Nat → Nat} (HK : sd_K K sm) (Y : ∀ i, i < K → hq_gi sm 229 i = if O.testBit i = true then 1 else 0) (H : ∀ i, i < K → hq_gi sm 228 i = -1 → hr i ≤ 60 ∧ hq_gi sm 224 i = Int32.ofNat (hr i)) : ∀ (q j m a : Nat), j + q = K → q < m → a ≤ 60 → ∃ b, a ≤ b ∧ b ≤ 60 ∧ (∀ i, j ≤ i → i < K → O.testBit i = false → hq_gi sm 228 i = -1 → hr i ≤ b) ∧ (∀ d, a ≤ d → (∀ i, j ≤ i → i < K → O.testBit i = false → hq_gi sm 228 i = -1 → hr i ≤ d) → b ≤ d) ∧ f_X12_boldsOf_L75 N m a1 (Int32.ofNat a) (Int32.ofNat j) sm = f_X12_boldsOf_L129 N N a1 (Int32.ofNat b) 0 0 (hq_si sm 174 53 a1) := by
  have km := sd_km (N := N) HK
  have d10 : ¬ (1 : Int32) = 0 := by decide
  intro q
  induction q with
  | zero =>
    intro j m a hj hm ha
    obtain ⟨m, rfl⟩ : ∃ k, m = k + 1 := ⟨m - 1, by omega⟩
    have c : ¬ Int32.ofNat j < Int32.ofNat K := by rw [nn_lt (by omega) (by omega)]; omega
    exact ⟨a, Nat.le_refl _, ha, fun i h1 h2 => by omega, fun d h _ => h, by simp only [f_X12_boldsOf_L75_s, f_X12_boldsOf_L75_B, km, Option.bind_some, if_neg c, nn_pi]⟩
  | succ q ih =>
    intro j m a hj hm ha
    obtain ⟨m, rfl⟩ : ∃ k, m = k + 1 := ⟨m - 1, by omega⟩
    have c : Int32.ofNat j < Int32.ofNat K := (nn_lt (by omega) (by omega)).mpr (by omega)
    have l9 : hq_ld sm 229 24 (Int32.ofNat j) = some (hq_gi sm 229 j) := nn_ld (by omega) (by omega)
    have l8 : hq_ld sm 228 24 (Int32.ofNat j) = some (hq_gi sm 228 j) := nn_ld (by omega) (by omega)
    have y := Y j (by omega)
    by_cases q1 : O.testBit j = true
    · rw [if_pos q1] at y
      obtain ⟨b, b1, b2, b3, b4, b5⟩ := ih (j + 1) m a (by omega) (by omega) ha
      refine ⟨b, b1, b2, fun i h1 h2 h3 h4 => ?_, fun d h1 h2 => b4 d h1 (fun i g1 => h2 i (by omega)), ?_⟩
      · by_cases e : i = j
        · rw [e, q1] at h3; cases h3
        · exact b3 i (by omega) h2 h3 h4
      · rw [← b5]
        simp only [f_X12_boldsOf_L75_s, f_X12_boldsOf_L75_B, km, Option.bind_some, if_pos c, l9, y, if_neg d10, nn_succ]
    · rw [if_neg q1] at y
      have q1 : O.testBit j = false := by cases z : O.testBit j with | true => exact absurd z q1 | false => rfl
      by_cases q2 : hq_gi sm 228 j = -1
      · obtain ⟨g1, g2⟩ := H j (by omega) q2
        have l4 : hq_ld sm 224 24 (Int32.ofNat j) = some (Int32.ofNat (hr j)) := by rw [nn_ld (by omega) (by omega), g2]
        have mx := nb_max (show a < 2147483648 by omega) (show hr j < 2147483648 by omega)
        obtain ⟨b, b1, b2, b3, b4, b5⟩ := ih (j + 1) m (max a (hr j)) (by omega) (by omega) (by omega)
        refine ⟨b, by omega, b2, fun i h1 h2 h3 h4 => ?_, fun d h1 h2 => b4 d (by have := h2 j (Nat.le_refl _) (by omega) q1 q2; omega) (fun i g1 => h2 i (by omega)), ?_⟩
        · by_cases e : i = j
          · rw [e]; omega
          · exact b3 i (by omega) h2 h3 h4
        · rw [← b5]
          simp only [f_X12_boldsOf_L75_s, f_X12_boldsOf_L75_B, km, Option.bind_some, if_pos c, l9, y, if_true, l8, q2, l4, mx, nn_succ]
      · obtain ⟨b, b1, b2, b3, b4, b5⟩ := ih (j + 1) m a (by omega) (by omega) ha
        refine ⟨b, b1, b2, fun i h1 h2 h3 h4 => ?_, fun d h1 h2 => b4 d h1 (fun i g1 => h2 i (by omega)), ?_⟩
        · by_cases e : i = j
          · rw [e] at h4; exact absurd h4 q2
          · exact b3 i (by omega) h2 h3 h4
        · rw [← b5]
          simp only [f_X12_boldsOf_L75_s, f_X12_boldsOf_L75_B, km, Option.bind_some, if_pos c, l9, y, if_true, l8, if_neg q2, nn_succ]
/-- an hour of which no fact stands is so -/
theorem so_none {T h : Nat} (hN : 100 < N) (hk : k ≤ 24) (hT : T < 2147483648) (k1 : hq_gi sx 163 0 = Int32.ofNat k) (no : ∀ i, i < k → T.testBit i = true → ¬ hq_gi sx 164 i = Int32.ofNat h) : f_X2_areSo N (Int32.ofNat T) (Int32.ofNat h) sx = some (1, sx) := by
  have key : ∀ (q j m : Nat), j + q = k → q < m → f_X2_areSo_L3 N m (Int32.ofNat T) (Int32.ofNat h) (Int32.ofNat j) sx = some (1, sx) := by
    intro q
    induction q with
    | zero =>
      intro j m hj hm
      obtain ⟨m, rfl⟩ : ∃ k, m = k + 1 := ⟨m - 1, by omega⟩
      have c : ¬ Int32.ofNat j < Int32.ofNat k := by rw [nn_lt (by omega) (by omega)]; omega
      simp only [f_X2_areSo_L3_s, f_X2_areSo_L3_B, k1, if_neg c]
    | succ q ih =>
      intro j m hj hm
      obtain ⟨m, rfl⟩ : ∃ k, m = k + 1 := ⟨m - 1, by omega⟩
      have c : Int32.ofNat j < Int32.ofNat k := (nn_lt (by omega) (by omega)).mpr (by omega)
      have b1 := nb_bit1 hT (show j < 32 by omega)
      have l4 : hq_ld sx 164 24 (Int32.ofNat j) = some (hq_gi sx 164 j) := nn_ld (by omega) (by omega)
      rw [← ih (j + 1) m (by omega) (by omega)]
      by_cases q1 : T.testBit j = true
      · have q2 := no j (by omega) q1
        simp only [f_X2_areSo_L3_s, f_X2_areSo_L3_B, f_X2_areSo_J83, k1, if_pos c, b1, if_pos q1, l4, if_neg q2, Option.bind_some, if_true, nn_succ]
      · simp only [f_X2_areSo_L3_s, f_X2_areSo_L3_B, f_X2_areSo_J83, k1, if_pos c, b1, if_neg q1, Option.bind_some, if_true, nn_succ]
  exact key k 0 N (by omega) (by omega)
end
