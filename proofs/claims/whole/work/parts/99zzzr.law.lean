/-! THE READER: the law's line -/
section
variable {N L v : Nat} {t : Nat → Nat}
theorem rch_run {r : Int32} : ∀ (j m i : Nat) (s s' : hq_S), rch N j s s' → i + j ≤ 700 → f_X6_readLaw_L110 N (m + j) r 1 (Int32.ofNat i) s = f_X6_readLaw_L110 N m r 1 (Int32.ofNat (i + j)) s' := by
  intro j
  induction j with
  | zero =>
    intro m i s s' h hi
    have e : s = s' := h
    rw [e]; rfl
  | succ j ih =>
    intro m i s s' h hi
    obtain ⟨s1, e1, e2⟩ := h
    have st : (if hq_gi s 48 5 = 0 then (f_X6_readJoint N s).bind fun y24 => some (y24.1, y24.2) else (f_X6_readSide N s).bind fun y25 => some (y25.1, y25.2)) = some (1, s1) := by
      unfold stp at e1
      by_cases c : hq_gi s 48 5 = 0
      · rw [if_pos c] at e1 ⊢
        rw [e1]; rfl
      · rw [if_neg c] at e1 ⊢
        rw [e1]; rfl
    rw [show m + (j + 1) = (m + j) + 1 by omega, f_X6_readLaw_L110_s]
    unfold f_X6_readLaw_L110_B
    rw [ie (show ((700 : Int32) < Int32.ofNat i) = (700 < i) from nb_ltp (a := 700) (by omega) (by omega)), if_neg (by omega), if_neg (by decide), st]
    simp only [ob]
    rw [nn_succ, ih m (i + 1) s1 s' e2 (by omega), show i + 1 + j = i + (j + 1) by omega]
theorem rch_end {r : Int32} {m i : Nat} {s s' : hq_S} (e1 : stp N s = some (0, s')) (hi : i ≤ 700) : f_X6_readLaw_L110 N (m + 2) r 1 (Int32.ofNat i) s = f_X6_readLaw_J146 N r 0 0 s' := by
  have st : (if hq_gi s 48 5 = 0 then (f_X6_readJoint N s).bind fun y24 => some (y24.1, y24.2) else (f_X6_readSide N s).bind fun y25 => some (y25.1, y25.2)) = some (0, s') := by
    unfold stp at e1
    by_cases c : hq_gi s 48 5 = 0
    · rw [if_pos c] at e1 ⊢
      rw [e1]; rfl
    · rw [if_neg c] at e1 ⊢
      rw [e1]; rfl
  rw [show m + 2 = (m + 1) + 1 by omega, f_X6_readLaw_L110_s]
  unfold f_X6_readLaw_L110_B
  rw [ie (show ((700 : Int32) < Int32.ofNat i) = (700 < i) from nb_ltp (a := 700) (by omega) (by omega)), if_neg (by omega), if_neg (by decide), st]
  simp only [ob]
  rw [f_X6_readLaw_L110_s]
  unfold f_X6_readLaw_L110_B
  rw [if_pos rfl]
  split <;> rfl
end
section
variable {nc nl ng nt v k0 r : Nat} {sx sx' sm sm' : hq_S}
theorem rule_k {r' : Nat} (hr : r' < 3) (hne : ¬ r' = r) (k64 : k0 ≤ 64) (ux : ∀ k i, v ≤ k → k ≤ v + 22 → ¬ (k = v + 9 ∧ i < 2) → ¬ (k = v + 10 ∧ k0 ≤ i) → ¬ (k = v + 11 ∧ i = r) → ¬ (k = v + 12 ∧ i = r) → hq_gi sx' k i = hq_gi sx k i)
    (um : ∀ k i, 176 ≤ k → k ≤ 193 → ¬ (k = 176 ∧ i = 13) → ¬ ((k = 192 ∨ k = 193) ∧ 64 + k0 ≤ i) → ¬ (k = 190 ∧ i = 3 + r) → ¬ (k = 191 ∧ i = 3 + r) → hq_gi sm' k i = hq_gi sm k i) (be : ∃ e, e ≤ k0 ∧ hq_gi sx (v + 12) r' = Int32.ofNat e) (h : hr_rule v r' sx (sh sm)) : hr_rule v r' sx' (sh sm') := by
  obtain ⟨e0, be1, be2⟩ := be
  unfold hr_rule at h ⊢
  simp only [sh_190, sh_191, sh_192, sh_193] at h ⊢
  obtain ⟨f, e, h1, h2, h3, h4, h5, h6, h7, h8, h9⟩ := h
  have ee : e = e0 := (nn_inj (by omega) (by omega)).mp (h5.symm.trans be2)
  refine ⟨f, e, h1, h2, ?_, ?_, ?_, ?_, h7, fun j j1 j2 => ?_, fun hf => ?_⟩
  · rw [ux _ _ (by omega) (by omega) (by omega) (by omega) (by omega) (by omega)]; exact h3
  · rw [um _ _ (by omega) (by omega) (by omega) (by omega) (by omega) (by omega)]; exact h4
  · rw [ux _ _ (by omega) (by omega) (by omega) (by omega) (by omega) (by omega)]; exact h5
  · rw [um _ _ (by omega) (by omega) (by omega) (by omega) (by omega) (by omega)]; exact h6
  · rw [ux _ _ (by omega) (by omega) (by omega) (by omega) (by omega) (by omega), um _ _ (by omega) (by omega) (by omega) (by omega) (by omega) (by omega), um _ _ (by omega) (by omega) (by omega) (by omega) (by omega) (by omega)]; exact h8 j j1 j2
  · obtain ⟨D, d1, d2, d3⟩ := h9 hf
    refine ⟨D, d1, d2, fun j j1 j2 => ?_⟩
    rw [um _ _ (by omega) (by omega) (by omega) (by omega) (by omega) (by omega), um _ _ (by omega) (by omega) (by omega) (by omega) (by omega) (by omega)]; exact d3 j j1 j2
theorem told_law (h : hr_told nc nl ng nt v sx (sh sm)) (hr : r < 3) (k64 : k0 ≤ 64) (ux : ∀ k i, v ≤ k → k ≤ v + 22 → ¬ (k = v + 9 ∧ i < 2) → ¬ (k = v + 10 ∧ k0 ≤ i) → ¬ (k = v + 11 ∧ i = r) → ¬ (k = v + 12 ∧ i = r) → hq_gi sx' k i = hq_gi sx k i) (uj : ∀ k i, hq_gj sx' k i = hq_gj sx k i)
    (um : ∀ k i, 176 ≤ k → k ≤ 193 → ¬ (k = 176 ∧ i = 13) → ¬ ((k = 192 ∨ k = 193) ∧ 64 + k0 ≤ i) → ¬ (k = 190 ∧ i = 3 + r) → ¬ (k = 191 ∧ i = 3 + r) → hq_gi sm' k i = hq_gi sm k i) (be : ∀ r', r' < 3 → ∃ e, e ≤ k0 ∧ hq_gi sx (v + 12) r' = Int32.ofNat e) (c9 : hr_nat 64 (hq_gi sx' (v + 9) 0) (hq_gi sm' 176 13)) (cr : hr_rule v r sx' (sh sm')) : hr_told nc nl ng nt v sx' (sh sm') := by
  have rk : ∀ r', r' < 3 → hr_rule v r' sx (sh sm) → hr_rule v r' sx' (sh sm') := fun r' h1 h2 => by
    by_cases e : r' = r
    · rw [e]; exact cr
    · exact rule_k h1 e k64 ux um (be r' h1) h2
  obtain ⟨h1, h2, h3, h4, h5, h6, h7, h8, h9, h10, h11, r0, r1, r2⟩ := h
  have q0 := rk 0 (by omega) r0
  have q1 := rk 1 (by omega) r1
  have q2 := rk 2 (by omega) r2
  simp only [sh_176, sh_177, sh_178, sh_179, sh_180, sh_181, sh_182, sh_183, sh_184, sh_185, sh_186, sh_187, sh_188, sh_189] at h2 h3 h4 h5 h6 h7 h8 h9 h10 h11
  unfold hr_told
  simp only [sh_176, sh_177, sh_178, sh_179, sh_180, sh_181, sh_182, sh_183, sh_184, sh_185, sh_186, sh_187, sh_188, sh_189]
  refine ⟨h1, ?_, fun i hi => ?_, fun i hi hi' => ?_, fun i hi => ?_, fun i hi => ?_, fun i hi => ?_, ?_, ?_, ?_, c9, q0, q1, q2⟩
  · simp (disch := omega) only [ux, um]; exact h2
  · simp (disch := omega) only [ux, um]; exact h3 i hi
  · simp (disch := omega) only [ux]; exact h4 i hi hi'
  · simp (disch := omega) only [ux, um]; exact h5 i hi
  · simp (disch := omega) only [ux, um]; exact h6 i hi
  · simp (disch := omega) only [ux, um]; exact h7 i hi
  · simp (disch := omega) only [ux, um]; exact h8
  · simp (disch := omega) only [uj, um]; exact h9
  · simp (disch := omega) only [ux]; exact h10
end
