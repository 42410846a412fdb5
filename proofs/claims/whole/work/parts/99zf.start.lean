/-! THE START: both fresh -/
theorem hR_0 {HC : hq_S → Prop} (h : HC hq_s0) : hR HC hq_s0 hq_s0 := by
  have no : ∀ {i : Nat} {P : Prop}, i < 0 → P := fun h => absurd h (Nat.not_lt_zero _)
  refine ⟨⟨0, by omega, rfl, rfl, fun i hi => no hi⟩, ⟨rfl, rfl⟩, ⟨rfl, rfl, rfl, rfl, rfl, rfl, rfl, rfl⟩, fun _ _ => rfl, h, 0, 0, 0, 0, 2, 0, fun _ => 0, fun _ => 0, fun _ => 0, ⟨rfl, Or.inl rfl, rfl⟩, ?_, ?_, ?_, ?_, Or.inl ⟨rfl, rfl⟩, ?_⟩
  · have rule : ∀ r, r < 3 → hr_rule 2 r hq_s0 hq_s0 := fun r hr => by
      have h1 : ∀ r, r < 3 → hq_gi hq_s0 13 r = 0 ∧ hq_gi hq_s0 190 r = 0 ∧ hq_gi hq_s0 14 r = 0 ∧ hq_gi hq_s0 191 r = 0 := by decide
      obtain ⟨e1, e2, e3, e4⟩ := h1 r hr
      exact ⟨0, 0, by omega, by omega, e1, e2, e3, e4, fun _ => rfl, fun j _ hj => no hj, fun z => no z⟩
    refine ⟨⟨by omega, by omega, by omega, by omega⟩, ⟨rfl, rfl, rfl, rfl, rfl, rfl, rfl, rfl⟩, fun i hi => no hi, fun i _ hi => ?_, fun i hi => no hi, fun i hi => no hi, fun i hi => no hi, ⟨100, by omega, rfl, rfl⟩, ⟨0, by omega, rfl, rfl⟩, ⟨rfl, rfl, fun i hi => ?_, fun i hi => ?_⟩, ⟨0, by omega, rfl, rfl⟩, rule 0 (by omega), rule 1 (by omega), rule 2 (by omega)⟩
    · have h1 : ∀ i, i < 10 → hq_gi hq_s0 17 i = 0 := by decide
      exact h1 i hi
    · have h1 : ∀ i, i < 3 → hq_gi hq_s0 19 i = 0 ∧ hq_gi hq_s0 20 i = 0 := by decide
      exact h1 i hi
    · have h1 : ∀ i, i < 4 → hq_gi hq_s0 23 i = 0 ∧ hq_gi hq_s0 24 i = -2 := by decide
      exact h1 i hi
  · refine ⟨⟨by omega, by omega, rfl, rfl, fun k hk => no hk⟩, ⟨by omega, by omega, rfl, rfl, fun k hk => no hk⟩, ⟨rfl, fun c hc => ?_⟩, fun a b ha => no ha, rfl, by omega⟩
    have h1 : ∀ i, i < 10 → hq_gi hq_s0 104 i = 0 := by decide
    exact h1 c hc
  · refine ⟨rfl, ⟨0, by omega, rfl, rfl⟩, ⟨0, by omega, rfl, rfl⟩, fun i hi => no hi, fun i _ hi => ?_, fun i hi => no hi, fun i hi => no hi, fun i _ hi => ?_⟩
    · have h1 : ∀ i, i < 10 → hq_gi hq_s0 199 i = 0 := by decide
      rw [show 10 * 0 + i = i by omega]
      exact h1 i hi
    · have h1 : ∀ i, i < 4 → hq_gi hq_s0 204 i = 0 := by decide
      rw [show 4 * 0 + i = i by omega]
      exact h1 i hi
  · exact ⟨0, by omega, rfl, rfl, Or.inl ⟨rfl, rfl⟩, fun i hi => no hi⟩
  · exact ⟨0, by omega, rfl, rfl, fun j hj => no hj⟩
