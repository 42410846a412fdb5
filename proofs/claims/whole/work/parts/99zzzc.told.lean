/-! THE READER: the text told so far; the reference's second halves -/
def hf (c : Nat) : Nat := match c with
  | 176 => 7
  | 177 => 10
  | 178 => 10
  | 179 => 10
  | 180 => 20
  | 181 => 20
  | 182 => 20
  | 183 => 3
  | 184 => 3
  | 185 => 3
  | 186 => 24
  | 187 => 4
  | 188 => 4
  | 189 => 4
  | 190 => 3
  | 191 => 3
  | 192 => 64
  | 193 => 64
  | _ => 0
def sh (s : hq_S) : hq_S := (fun k i => s.1 k (hf k + i), s.2)
section
variable {s : hq_S} {i : Nat}
theorem sh_176 : hq_gi (sh s) 176 i = hq_gi s 176 (7 + i) := rfl
theorem sh_177 : hq_gi (sh s) 177 i = hq_gi s 177 (10 + i) := rfl
theorem sh_178 : hq_gi (sh s) 178 i = hq_gi s 178 (10 + i) := rfl
theorem sh_179 : hq_gi (sh s) 179 i = hq_gi s 179 (10 + i) := rfl
theorem sh_180 : hq_gi (sh s) 180 i = hq_gi s 180 (20 + i) := rfl
theorem sh_181 : hq_gi (sh s) 181 i = hq_gi s 181 (20 + i) := rfl
theorem sh_182 : hq_gi (sh s) 182 i = hq_gi s 182 (20 + i) := rfl
theorem sh_183 : hq_gi (sh s) 183 i = hq_gi s 183 (3 + i) := rfl
theorem sh_184 : hq_gi (sh s) 184 i = hq_gi s 184 (3 + i) := rfl
theorem sh_185 : hq_gi (sh s) 185 i = hq_gi s 185 (3 + i) := rfl
theorem sh_186 : hq_gi (sh s) 186 i = hq_gi s 186 (24 + i) := rfl
theorem sh_187 : hq_gi (sh s) 187 i = hq_gi s 187 (4 + i) := rfl
theorem sh_188 : hq_gi (sh s) 188 i = hq_gi s 188 (4 + i) := rfl
theorem sh_189 : hq_gi (sh s) 189 i = hq_gi s 189 (4 + i) := rfl
theorem sh_190 : hq_gi (sh s) 190 i = hq_gi s 190 (3 + i) := rfl
theorem sh_191 : hq_gi (sh s) 191 i = hq_gi s 191 (3 + i) := rfl
theorem sh_192 : hq_gi (sh s) 192 i = hq_gi s 192 (64 + i) := rfl
theorem sh_193 : hq_gi (sh s) 193 i = hq_gi s 193 (64 + i) := rfl
end
theorem hr_lt_mono {n m : Nat} {x y : Int32} (h : hr_lt n x y) (g : n ≤ m) : hr_lt m x y := by
  obtain ⟨k, h1, h2⟩ := h
  exact ⟨k, by omega, h2⟩
section
variable {nc nl ng nt v : Nat} {sx sx' sm sm' : hq_S}
theorem told_corner (h : hr_told nc nl ng nt v sx (sh sm)) (hn : nc < 10)
    (ux : ∀ k i, v ≤ k → k ≤ v + 22 → ¬ (k = v ∧ i = 0) → ¬ (k = v + 1 ∧ i = nc) → ¬ (k = v + 2 ∧ i = nc) → ¬ (k = v + 15 ∧ i = nc) → hq_gi sx' k i = hq_gi sx k i) (uj : ∀ k i, hq_gj sx' k i = hq_gj sx k i)
    (um : ∀ k i, 176 ≤ k → k ≤ 193 → ¬ (k = 176 ∧ i = 7) → ¬ (k = 177 ∧ i = 10 + nc) → ¬ (k = 178 ∧ i = 10 + nc) → ¬ (k = 179 ∧ i = 10 + nc) → hq_gi sm' k i = hq_gi sm k i)
    (c1 : hq_gi sx' v 0 = Int32.ofNat (nc + 1)) (c2 : hq_gi sm' 176 7 = Int32.ofNat (nc + 1)) (c3 : hq_gi sx' (v + 1) nc = hq_gi sm' 177 (10 + nc)) (c4 : hr_nat 9 (hq_gi sx' (v + 2) nc) (hq_gi sm' 178 (10 + nc))) (c5 : hr_nat 999 (hq_gi sx' (v + 15) nc) (hq_gi sm' 179 (10 + nc))) : hr_told (nc + 1) nl ng nt v sx' (sh sm') := by
  obtain ⟨h1, h2, h3, h4, h5, h6, h7, h8, h9, h10, h11, r0, r1, r2⟩ := h
  unfold hr_rule at r0 r1 r2
  simp only [sh_176, sh_177, sh_178, sh_179, sh_180, sh_181, sh_182, sh_183, sh_184, sh_185, sh_186, sh_187, sh_188, sh_189, sh_190, sh_191, sh_192, sh_193] at h2 h3 h4 h5 h6 h7 h8 h9 h10 h11 r0 r1 r2
  unfold hr_told hr_rule
  simp only [sh_176, sh_177, sh_178, sh_179, sh_180, sh_181, sh_182, sh_183, sh_184, sh_185, sh_186, sh_187, sh_188, sh_189, sh_190, sh_191, sh_192, sh_193]
  refine ⟨⟨by omega, h1.2.1, h1.2.2.1, h1.2.2.2⟩, ⟨c1, c2, ?_⟩, fun i hi => ?_, fun i hi hi' => ?_, fun i hi => ?_, fun i hi => ?_, fun i hi => ?_, ?_, ?_, ?_, ?_, ?_, ?_, ?_⟩
  · simp (disch := omega) only [ux, um]; exact h2.2.2
  · by_cases q : i = nc
    · rw [q]; exact ⟨c3, c4, c5⟩
    · simp (disch := omega) only [ux, um]; exact h3 i (by omega)
  · simp (disch := omega) only [ux]; exact h4 i (by omega) hi'
  · obtain ⟨q1, q2, q3⟩ := h5 i hi
    simp (disch := omega) only [ux, um]
    exact ⟨hr_lt_mono q1 (by omega), hr_lt_mono q2 (by omega), q3⟩
  · obtain ⟨q1, q2, w, q3, q4, q5, q6⟩ := h6 i hi
    simp (disch := omega) only [ux, um]
    exact ⟨q1, hr_lt_mono q2 (by omega), w, q3, q4, q5, fun j hj => hr_lt_mono (q6 j hj) (by omega)⟩
  · obtain ⟨q1, q2, q3⟩ := h7 i hi
    simp (disch := omega) only [ux, um]
    exact ⟨q1, hr_lt_mono q2 (by omega), q3⟩
  · simp (disch := omega) only [ux, um]; exact h8
  · simp (disch := omega) only [uj, um]; exact h9
  · simp (disch := omega) only [ux]; exact h10
  · simp (disch := omega) only [ux, um]; exact h11
  · simp (disch := omega) only [ux, um]; exact r0
  · simp (disch := omega) only [ux, um]; exact r1
  · simp (disch := omega) only [ux, um]; exact r2
theorem told_lane (h : hr_told nc nl ng nt v sx (sh sm)) (hn : nl < 20)
    (ux : ∀ k i, v ≤ k → k ≤ v + 22 → ¬ (k = v ∧ i = 3) → ¬ (k = v ∧ i = 6) → ¬ (k = v + 3 ∧ i = nl) → ¬ (k = v + 4 ∧ i = nl) → hq_gi sx' k i = hq_gi sx k i) (uj : ∀ k i, hq_gj sx' k i = hq_gj sx k i)
    (um : ∀ k i, 176 ≤ k → k ≤ 193 → ¬ (k = 176 ∧ i = 8) → ¬ (k = 180 ∧ i = 20 + nl) → ¬ (k = 181 ∧ i = 20 + nl) → ¬ (k = 182 ∧ i = 20 + nl) → hq_gi sm' k i = hq_gi sm k i)
    (c1 : hq_gi sx' v 3 = Int32.ofNat (nl + 1)) (c2 : hq_gi sm' 176 8 = Int32.ofNat (nl + 1)) (c3 : hr_lt nc (hq_gi sx' (v + 3) nl) (hq_gi sm' 180 (20 + nl))) (c4 : hr_lt nc (hq_gi sx' (v + 4) nl) (hq_gi sm' 181 (20 + nl))) (c5 : ¬ hq_gi sm' 180 (20 + nl) = hq_gi sm' 181 (20 + nl)) (c6 : ∀ i, i < nl → (hq_gi sx' v 6 >>> Int32.ofNat i) &&& 1 = (hq_gi sx v 6 >>> Int32.ofNat i) &&& 1) (c7 : (hq_gi sx' v 6 >>> Int32.ofNat nl) &&& 1 = hq_gi sm' 182 (20 + nl)) (c8 : hq_gi sm' 182 (20 + nl) = 0 ∨ hq_gi sm' 182 (20 + nl) = 1) : hr_told nc (nl + 1) ng nt v sx' (sh sm') := by
  obtain ⟨h1, h2, h3, h4, h5, h6, h7, h8, h9, h10, h11, r0, r1, r2⟩ := h
  unfold hr_rule at r0 r1 r2
  simp only [sh_176, sh_177, sh_178, sh_179, sh_180, sh_181, sh_182, sh_183, sh_184, sh_185, sh_186, sh_187, sh_188, sh_189, sh_190, sh_191, sh_192, sh_193] at h2 h3 h4 h5 h6 h7 h8 h9 h10 h11 r0 r1 r2
  unfold hr_told hr_rule
  simp only [sh_176, sh_177, sh_178, sh_179, sh_180, sh_181, sh_182, sh_183, sh_184, sh_185, sh_186, sh_187, sh_188, sh_189, sh_190, sh_191, sh_192, sh_193]
  refine ⟨⟨h1.1, by omega, h1.2.2.1, h1.2.2.2⟩, ⟨?_, ?_, c1, c2, ?_⟩, fun i hi => ?_, fun i hi hi' => ?_, fun i hi => ?_, fun i hi => ?_, fun i hi => ?_, ?_, ?_, ?_, ?_, ?_, ?_, ?_⟩
  · rw [ux _ _ (by omega) (by omega) (by omega) (by omega) (by omega) (by omega)]; exact h2.1
  · rw [um _ _ (by omega) (by omega) (by omega) (by omega) (by omega) (by omega)]; exact h2.2.1
  · simp (disch := omega) only [ux, um]; exact h2.2.2.2.2
  · simp (disch := omega) only [ux, um]; exact h3 i hi
  · simp (disch := omega) only [ux]; exact h4 i hi hi'
  · by_cases q : i = nl
    · rw [q]; exact ⟨c3, c4, c5, c7, c8⟩
    · rw [c6 i (by omega)]
      simp (disch := omega) only [ux, um]
      exact h5 i (by omega)
  · simp (disch := omega) only [ux, um]; exact h6 i hi
  · simp (disch := omega) only [ux, um]; exact h7 i hi
  · simp (disch := omega) only [ux, um]; exact h8
  · simp (disch := omega) only [uj, um]; exact h9
  · simp (disch := omega) only [ux]; exact h10
  · simp (disch := omega) only [ux, um]; exact h11
  · simp (disch := omega) only [ux, um]; exact r0
  · simp (disch := omega) only [ux, um]; exact r1
  · simp (disch := omega) only [ux, um]; exact r2
theorem told_guard (h : hr_told nc nl ng nt v sx (sh sm)) (hn : ng < 3)
    (ux : ∀ k i, v ≤ k → k ≤ v + 22 → ¬ (k = v ∧ i = 7) → ¬ (k = v + 5 ∧ i = ng) → ¬ (k = v + 16 ∧ i = ng) → hq_gi sx' k i = hq_gi sx k i) (uj : ∀ k i, hq_gj sx' k i = hq_gj sx k i)
    (um : ∀ k i, 176 ≤ k → k ≤ 193 → ¬ (k = 176 ∧ i = 9) → ¬ (k = 183 ∧ i = 3 + ng) → ¬ (k = 184 ∧ i = 3 + ng) → ¬ (k = 185 ∧ i = 3 + ng) → hq_gi sm' k i = hq_gi sm k i)
    (c1 : hq_gi sx' v 7 = Int32.ofNat (ng + 1)) (c2 : hq_gi sm' 176 9 = Int32.ofNat (ng + 1)) (c3 : hq_gi sx' (v + 5) ng = hq_gi sm' 183 (3 + ng)) (c4 : hr_lt nc (hq_gi sx' (v + 16) ng) (hq_gi sm' 184 (3 + ng))) (c5 : hq_gi sx' (v + 7) ng = 0) (c6 : hq_gi sm' 185 (3 + ng) = 0) : hr_told nc nl (ng + 1) nt v sx' (sh sm') := by
  obtain ⟨h1, h2, h3, h4, h5, h6, h7, h8, h9, h10, h11, r0, r1, r2⟩ := h
  unfold hr_rule at r0 r1 r2
  simp only [sh_176, sh_177, sh_178, sh_179, sh_180, sh_181, sh_182, sh_183, sh_184, sh_185, sh_186, sh_187, sh_188, sh_189, sh_190, sh_191, sh_192, sh_193] at h2 h3 h4 h5 h6 h7 h8 h9 h10 h11 r0 r1 r2
  unfold hr_told hr_rule
  simp only [sh_176, sh_177, sh_178, sh_179, sh_180, sh_181, sh_182, sh_183, sh_184, sh_185, sh_186, sh_187, sh_188, sh_189, sh_190, sh_191, sh_192, sh_193]
  refine ⟨⟨h1.1, h1.2.1, by omega, h1.2.2.2⟩, ⟨?_, ?_, ?_, ?_, c1, c2, ?_⟩, fun i hi => ?_, fun i hi hi' => ?_, fun i hi => ?_, fun i hi => ?_, fun i hi => ?_, ?_, ?_, ?_, ?_, ?_, ?_, ?_⟩
  · rw [ux _ _ (by omega) (by omega) (by omega) (by omega) (by omega)]; exact h2.1
  · rw [um _ _ (by omega) (by omega) (by omega) (by omega) (by omega) (by omega)]; exact h2.2.1
  · rw [ux _ _ (by omega) (by omega) (by omega) (by omega) (by omega)]; exact h2.2.2.1
  · rw [um _ _ (by omega) (by omega) (by omega) (by omega) (by omega) (by omega)]; exact h2.2.2.2.1
  · simp (disch := omega) only [ux, um]; exact h2.2.2.2.2.2.2
  · simp (disch := omega) only [ux, um]; exact h3 i hi
  · simp (disch := omega) only [ux]; exact h4 i hi hi'
  · simp (disch := omega) only [ux, um]; exact h5 i hi
  · by_cases q : i = ng
    · rw [q]; exact ⟨c3, c4, 0, by omega, c5, c6, fun j hj => absurd hj (Nat.not_lt_zero _)⟩
    · simp (disch := omega) only [ux, um]
      exact h6 i (by omega)
  · simp (disch := omega) only [ux, um]; exact h7 i hi
  · simp (disch := omega) only [ux, um]; exact h8
  · simp (disch := omega) only [uj, um]; exact h9
  · simp (disch := omega) only [ux]; exact h10
  · simp (disch := omega) only [ux, um]; exact h11
  · simp (disch := omega) only [ux, um]; exact r0
  · simp (disch := omega) only [ux, um]; exact r1
  · simp (disch := omega) only [ux, um]; exact r2
/-- a place more of guard g's beat -/
theorem told_beat {g w : Nat} (h : hr_told nc nl ng nt v sx (sh sm)) (hg : g < ng) (hw : w < 8) (e1 : hq_gi sx (v + 7) g = Int32.ofNat w)
    (ux : ∀ k i, v ≤ k → k ≤ v + 22 → ¬ (k = v + 6 ∧ i = 8 * g + w) → ¬ (k = v + 7 ∧ i = g) → hq_gi sx' k i = hq_gi sx k i) (uj : ∀ k i, hq_gj sx' k i = hq_gj sx k i)
    (um : ∀ k i, 176 ≤ k → k ≤ 193 → ¬ (k = 186 ∧ i = 24 + (8 * g + w)) → ¬ (k = 185 ∧ i = 3 + g) → hq_gi sm' k i = hq_gi sm k i)
    (c1 : hq_gi sx' (v + 7) g = Int32.ofNat (w + 1)) (c2 : hq_gi sm' 185 (3 + g) = Int32.ofNat (w + 1)) (c3 : hr_lt nc (hq_gi sx' (v + 6) (8 * g + w)) (hq_gi sm' 186 (24 + (8 * g + w)))) : hr_told nc nl ng nt v sx' (sh sm') := by
  obtain ⟨h1, h2, h3, h4, h5, h6, h7, h8, h9, h10, h11, r0, r1, r2⟩ := h
  unfold hr_rule at r0 r1 r2
  simp only [sh_176, sh_177, sh_178, sh_179, sh_180, sh_181, sh_182, sh_183, sh_184, sh_185, sh_186, sh_187, sh_188, sh_189, sh_190, sh_191, sh_192, sh_193] at h2 h3 h4 h5 h6 h7 h8 h9 h10 h11 r0 r1 r2
  unfold hr_told hr_rule
  simp only [sh_176, sh_177, sh_178, sh_179, sh_180, sh_181, sh_182, sh_183, sh_184, sh_185, sh_186, sh_187, sh_188, sh_189, sh_190, sh_191, sh_192, sh_193]
  refine ⟨h1, ?_, fun i hi => ?_, fun i hi hi' => ?_, fun i hi => ?_, fun i hi => ?_, fun i hi => ?_, ?_, ?_, ?_, ?_, ?_, ?_, ?_⟩
  · simp (disch := omega) only [ux, um]; exact h2
  · simp (disch := omega) only [ux, um]; exact h3 i hi
  · simp (disch := omega) only [ux]; exact h4 i hi hi'
  · simp (disch := omega) only [ux, um]; exact h5 i hi
  · obtain ⟨q1, q2, w', q3, q4, q5, q6⟩ := h6 i hi
    by_cases q : i = g
    · subst q
      have ew : w' = w := (nn_inj (by omega) (by omega)).mp (q4.symm.trans e1)
      subst ew
      rw [ux (v + 5) i (by omega) (by omega) (by omega) (by omega), ux (v + 16) i (by omega) (by omega) (by omega) (by omega), um 183 _ (by omega) (by omega) (by omega) (by omega), um 184 _ (by omega) (by omega) (by omega) (by omega)]
      refine ⟨q1, q2, w' + 1, by omega, c1, c2, fun j hj => ?_⟩
      by_cases z : j = w'
      · rw [z]; exact c3
      · rw [ux _ _ (by omega) (by omega) (by omega) (by omega), um _ _ (by omega) (by omega) (by omega) (by omega)]
        exact q6 j (by omega)
    · rw [ux (v + 5) i (by omega) (by omega) (by omega) (by omega), ux (v + 16) i (by omega) (by omega) (by omega) (by omega), um 183 _ (by omega) (by omega) (by omega) (by omega), um 184 _ (by omega) (by omega) (by omega) (by omega), ux (v + 7) i (by omega) (by omega) (by omega) (by omega), um 185 _ (by omega) (by omega) (by omega) (by omega)]
      refine ⟨q1, q2, w', q3, q4, q5, fun j hj => ?_⟩
      rw [ux _ _ (by omega) (by omega) (by omega) (by omega), um _ _ (by omega) (by omega) (by omega) (by omega)]
      exact q6 j hj
  · simp (disch := omega) only [ux, um]; exact h7 i hi
  · simp (disch := omega) only [ux, um]; exact h8
  · simp (disch := omega) only [uj, um]; exact h9
  · simp (disch := omega) only [ux]; exact h10
  · simp (disch := omega) only [ux, um]; exact h11
  · simp (disch := omega) only [ux, um]; exact r0
  · simp (disch := omega) only [ux, um]; exact r1
  · simp (disch := omega) only [ux, um]; exact r2
theorem told_thief (h : hr_told nc nl ng nt v sx (sh sm)) (hn : nt < 4)
    (ux : ∀ k i, v ≤ k → k ≤ v + 22 → ¬ (k = v ∧ i = 11) → ¬ (k = v + 8 ∧ i = nt) → ¬ (k = v + 19 ∧ i = nt) → ¬ (k = v + 20 ∧ i = nt) → hq_gi sx' k i = hq_gi sx k i) (uj : ∀ k i, hq_gj sx' k i = hq_gj sx k i)
    (um : ∀ k i, 176 ≤ k → k ≤ 193 → ¬ (k = 176 ∧ i = 10) → ¬ (k = 187 ∧ i = 4 + nt) → ¬ (k = 188 ∧ i = 4 + nt) → ¬ (k = 189 ∧ i = 4 + nt) → hq_gi sm' k i = hq_gi sm k i)
    (c1 : hq_gi sx' v 11 = Int32.ofNat (nt + 1)) (c2 : hq_gi sm' 176 10 = Int32.ofNat (nt + 1)) (c3 : hq_gi sx' (v + 8) nt = hq_gi sm' 187 (4 + nt)) (c4 : hr_lt nc (hq_gi sx' (v + 19) nt) (hq_gi sm' 188 (4 + nt))) (c5 : hr_nat 9 (hq_gi sx' (v + 20) nt) (hq_gi sm' 189 (4 + nt))) : hr_told nc nl ng (nt + 1) v sx' (sh sm') := by
  obtain ⟨h1, h2, h3, h4, h5, h6, h7, h8, h9, h10, h11, r0, r1, r2⟩ := h
  unfold hr_rule at r0 r1 r2
  simp only [sh_176, sh_177, sh_178, sh_179, sh_180, sh_181, sh_182, sh_183, sh_184, sh_185, sh_186, sh_187, sh_188, sh_189, sh_190, sh_191, sh_192, sh_193] at h2 h3 h4 h5 h6 h7 h8 h9 h10 h11 r0 r1 r2
  unfold hr_told hr_rule
  simp only [sh_176, sh_177, sh_178, sh_179, sh_180, sh_181, sh_182, sh_183, sh_184, sh_185, sh_186, sh_187, sh_188, sh_189, sh_190, sh_191, sh_192, sh_193]
  refine ⟨⟨h1.1, h1.2.1, h1.2.2.1, by omega⟩, ⟨?_, ?_, ?_, ?_, ?_, ?_, c1, c2⟩, fun i hi => ?_, fun i hi hi' => ?_, fun i hi => ?_, fun i hi => ?_, fun i hi => ?_, ?_, ?_, ?_, ?_, ?_, ?_, ?_⟩
  · rw [ux _ _ (by omega) (by omega) (by omega) (by omega) (by omega) (by omega)]; exact h2.1
  · rw [um _ _ (by omega) (by omega) (by omega) (by omega) (by omega) (by omega)]; exact h2.2.1
  · rw [ux _ _ (by omega) (by omega) (by omega) (by omega) (by omega) (by omega)]; exact h2.2.2.1
  · rw [um _ _ (by omega) (by omega) (by omega) (by omega) (by omega) (by omega)]; exact h2.2.2.2.1
  · rw [ux _ _ (by omega) (by omega) (by omega) (by omega) (by omega) (by omega)]; exact h2.2.2.2.2.1
  · rw [um _ _ (by omega) (by omega) (by omega) (by omega) (by omega) (by omega)]; exact h2.2.2.2.2.2.1
  · simp (disch := omega) only [ux, um]; exact h3 i hi
  · simp (disch := omega) only [ux]; exact h4 i hi hi'
  · simp (disch := omega) only [ux, um]; exact h5 i hi
  · simp (disch := omega) only [ux, um]; exact h6 i hi
  · by_cases q : i = nt
    · rw [q]; exact ⟨c3, c4, c5⟩
    · simp (disch := omega) only [ux, um]
      exact h7 i (by omega)
  · simp (disch := omega) only [ux, um]; exact h8
  · simp (disch := omega) only [uj, um]; exact h9
  · simp (disch := omega) only [ux]; exact h10
  · simp (disch := omega) only [ux, um]; exact h11
  · simp (disch := omega) only [ux, um]; exact r0
  · simp (disch := omega) only [ux, um]; exact r1
  · simp (disch := omega) only [ux, um]; exact r2
theorem told_grip (h : hr_told nc nl ng nt v sx (sh sm))
    (ux : ∀ k i, v ≤ k → k ≤ v + 22 → ¬ (k = v ∧ i = 13) → ¬ (k = v ∧ i = 14) → hq_gi sx' k i = hq_gi sx k i) (uj : ∀ k i, hq_gj sx' k i = hq_gj sx k i)
    (um : ∀ k i, 176 ≤ k → k ≤ 193 → ¬ (k = 176 ∧ i = 11) → hq_gi sm' k i = hq_gi sm k i)
    (c1 : hr_nat 100 (hq_gi sx' v 13) (hq_gi sm' 176 11)) : hr_told nc nl ng nt v sx' (sh sm') := by
  obtain ⟨h1, h2, h3, h4, h5, h6, h7, h8, h9, h10, h11, r0, r1, r2⟩ := h
  unfold hr_rule at r0 r1 r2
  simp only [sh_176, sh_177, sh_178, sh_179, sh_180, sh_181, sh_182, sh_183, sh_184, sh_185, sh_186, sh_187, sh_188, sh_189, sh_190, sh_191, sh_192, sh_193] at h2 h3 h4 h5 h6 h7 h8 h9 h10 h11 r0 r1 r2
  unfold hr_told hr_rule
  simp only [sh_176, sh_177, sh_178, sh_179, sh_180, sh_181, sh_182, sh_183, sh_184, sh_185, sh_186, sh_187, sh_188, sh_189, sh_190, sh_191, sh_192, sh_193]
  refine ⟨h1, ?_, fun i hi => ?_, fun i hi hi' => ?_, fun i hi => ?_, fun i hi => ?_, fun i hi => ?_, c1, ?_, ?_, ?_, ?_, ?_, ?_⟩
  · simp (disch := omega) only [ux, um]; exact h2
  · simp (disch := omega) only [ux, um]; exact h3 i hi
  · simp (disch := omega) only [ux]; exact h4 i hi hi'
  · simp (disch := omega) only [ux, um]; exact h5 i hi
  · simp (disch := omega) only [ux, um]; exact h6 i hi
  · simp (disch := omega) only [ux, um]; exact h7 i hi
  · simp (disch := omega) only [uj, um]; exact h9
  · simp (disch := omega) only [ux]; exact h10
  · simp (disch := omega) only [ux, um]; exact h11
  · simp (disch := omega) only [ux, um]; exact r0
  · simp (disch := omega) only [ux, um]; exact r1
  · simp (disch := omega) only [ux, um]; exact r2
theorem told_seed {d : Nat} (h : hr_told nc nl ng nt v sx (sh sm))
    (ux : ∀ k i, v ≤ k → k ≤ v + 22 → ¬ (k = v ∧ i = 15) → hq_gi sx' k i = hq_gi sx k i)
    (um : ∀ k i, 176 ≤ k → k ≤ 193 → ¬ (k = 176 ∧ i = 12) → hq_gi sm' k i = hq_gi sm k i)
    (hd : d ≤ 99999) (c1 : hq_gj sx' (v + 14) 1 = Int64.ofNat d) (c2 : hq_gi sm' 176 12 = Int32.ofNat d) : hr_told nc nl ng nt v sx' (sh sm') := by
  obtain ⟨h1, h2, h3, h4, h5, h6, h7, h8, h9, h10, h11, r0, r1, r2⟩ := h
  unfold hr_rule at r0 r1 r2
  simp only [sh_176, sh_177, sh_178, sh_179, sh_180, sh_181, sh_182, sh_183, sh_184, sh_185, sh_186, sh_187, sh_188, sh_189, sh_190, sh_191, sh_192, sh_193] at h2 h3 h4 h5 h6 h7 h8 h9 h10 h11 r0 r1 r2
  unfold hr_told hr_rule
  simp only [sh_176, sh_177, sh_178, sh_179, sh_180, sh_181, sh_182, sh_183, sh_184, sh_185, sh_186, sh_187, sh_188, sh_189, sh_190, sh_191, sh_192, sh_193]
  refine ⟨h1, ?_, fun i hi => ?_, fun i hi hi' => ?_, fun i hi => ?_, fun i hi => ?_, fun i hi => ?_, ?_, ⟨d, hd, c1, c2⟩, ?_, ?_, ?_, ?_, ?_⟩
  · simp (disch := omega) only [ux, um]; exact h2
  · simp (disch := omega) only [ux, um]; exact h3 i hi
  · simp (disch := omega) only [ux]; exact h4 i hi hi'
  · simp (disch := omega) only [ux, um]; exact h5 i hi
  · simp (disch := omega) only [ux, um]; exact h6 i hi
  · simp (disch := omega) only [ux, um]; exact h7 i hi
  · simp (disch := omega) only [ux, um]; exact h8
  · simp (disch := omega) only [ux]; exact h10
  · simp (disch := omega) only [ux, um]; exact h11
  · simp (disch := omega) only [ux, um]; exact r0
  · simp (disch := omega) only [ux, um]; exact r1
  · simp (disch := omega) only [ux, um]; exact r2
theorem told_same (h : hr_told nc nl ng nt v sx (sh sm)) (ux : ∀ k i, v ≤ k → k ≤ v + 22 → hq_gi sx' k i = hq_gi sx k i) (uj : ∀ k i, v ≤ k → k ≤ v + 22 → hq_gj sx' k i = hq_gj sx k i) (um : ∀ k i, 176 ≤ k → k ≤ 193 → hq_gi sm' k i = hq_gi sm k i) : hr_told nc nl ng nt v sx' (sh sm') := by
  unfold hr_told hr_rule at h ⊢
  simp only [sh_176, sh_177, sh_178, sh_179, sh_180, sh_181, sh_182, sh_183, sh_184, sh_185, sh_186, sh_187, sh_188, sh_189, sh_190, sh_191, sh_192, sh_193] at h ⊢
  simp (disch := omega) only [ux, uj, um]
  exact h
end
