/-! HOURS: what both have in common while hours go by -/
def hn_bold (sm : hq_S) (i : Nat) : Int32 := if Int32.ofNat i = hq_gi sm 174 53 then hq_gi sm 174 54 else hq_gi sm 189 i
/-- a night of the class (cell k) and a town of the reference (number l) -/
def hn_N (nc ng nt k l : Nat) (sx sm : hq_S) : Prop :=
  hq_gi sx k 0 = hq_gi sm 196 l ∧
  (∃ d : Nat, d < 2147483648 ∧ hq_gj sx k 1 = Int64.ofNat d ∧ hq_gi sm 197 l = Int32.ofNat d) ∧
  (∃ d : Nat, d < 1048576 ∧ hq_gi sx k 2 = Int32.ofNat d ∧ hq_gi sm 198 l = Int32.ofNat d) ∧
  (∀ i, i < nc → hr_nat 9999 (hq_gi sx (k + 1) i) (hq_gi sm 199 (10 * l + i))) ∧
  (∀ i, nc ≤ i → i < 10 → hq_gi sm 199 (10 * l + i) = 0) ∧
  (∀ i, i < ng → hr_lt nc (hq_gi sx (k + 2) i) (hq_gi sm 200 (3 * l + i)) ∧ (∃ a : Nat, a < 8 ∧ (a = 0 ∨ ∃ b : Nat, hq_gi sm 185 i = Int32.ofNat b ∧ a < b ∧ b ≤ 8) ∧ hq_gi sx (k + 3) i = Int32.ofNat a ∧ hq_gi sm 201 (3 * l + i) = Int32.ofNat a) ∧ hq_gi sx (k + 4) i = hq_gi sm 202 (3 * l + i)) ∧
  (∀ i, i < nt → hr_lt nc (hq_gi sx (k + 5) i) (hq_gi sm 203 (4 * l + i)) ∧ hr_nat 9 (hq_gi sx (k + 6) i) (hn_bold sm i) ∧ hq_gi sx (k + 7) i = hq_gi sm 204 (4 * l + i) ∧ ((hq_gi sx (k + 8) i = -2 ∧ hq_gi sm 205 (4 * l + i) = -1) ∨ hr_lt ng (hq_gi sx (k + 8) i) (hq_gi sm 205 (4 * l + i)))) ∧
  (∀ i, nt ≤ i → i < 4 → hq_gi sm 204 (4 * l + i) = 0)
/-- what stays while hours go by: the town t, the streets u, the night's cell k -/
def hh_S (nc nl ng nt t u k : Nat) (nx : Nat → Nat) (fa : Nat → Nat → Nat) (sx sm : hq_S) : Prop :=
  hr_told nc nl ng nt t sx sm ∧ ((t = 2 ∨ t = 25) ∧ (u = 103 ∨ u = 108) ∧ (k = 76 ∨ k = 94)) ∧ (hq_gr sx 113 0 = t ∧ hq_gr sx 113 1 = u ∧ hq_gr sx 113 2 = k) ∧
  ((∀ c, nx c < 2 ^ nc) ∧ ∀ a b, fa a b ≤ 99) ∧ hl_S u nc nx sx ∧ hl_R nc nx sm ∧ (∀ a b, a < nc → b < nc → hq_gi sx (u + 2) (10 * a + b) = Int32.ofNat (fa a b)) ∧ (∀ a b, a < nc → b < nc → hq_gi sm 207 (10 * a + b) = Int32.ofNat (fa a b))
/-- what the hours scribble -/
def hx_e (t : Nat) (s s' : hq_S) : Prop := (∀ k i, hq_gi s' k i = hq_gi s k i) ∧ (∀ k i, hq_gr s' k i = hq_gr s k i) ∧ ∀ k i, ¬ k = 151 → ¬ k = t + 13 → hq_gj s' k i = hq_gj s k i
def hm_e (s s' : hq_S) : Prop := ∀ k i, ¬ (k = 174 ∧ i = 36) → hq_gi s' k i = hq_gi s k i
theorem hx_e_rf (t : Nat) (s : hq_S) : hx_e t s s := ⟨fun _ _ => rfl, fun _ _ => rfl, fun _ _ _ _ => rfl⟩
theorem hm_e_rf (s : hq_S) : hm_e s s := fun _ _ _ => rfl
theorem hx_e_tr {t : Nat} {s s' s2 : hq_S} (h : hx_e t s s') (h' : hx_e t s' s2) : hx_e t s s2 := ⟨fun k i => (h'.1 k i).trans (h.1 k i), fun k i => (h'.2.1 k i).trans (h.2.1 k i), fun k i a b => (h'.2.2 k i a b).trans (h.2.2 k i a b)⟩
theorem hm_e_tr {s s' s2 : hq_S} (h : hm_e s s') (h' : hm_e s' s2) : hm_e s s2 := fun k i a => (h' k i a).trans (h k i a)
section
variable {nc nl ng nt t u k l : Nat} {nx : Nat → Nat} {fa : Nat → Nat → Nat} {sx sx' sm sm' : hq_S}
theorem hn_N_e (ht : t ≤ 25) (hk : 76 ≤ k) (hk' : k ≤ 94) (hx : hx_e t sx sx') (hm : hm_e sm sm') (h : hn_N nc ng nt k l sx sm) : hn_N nc ng nt k l sx' sm' := by
  have ex := hx.1
  have ej : ∀ i, hq_gj sx' k i = hq_gj sx k i := fun i => hx.2.2 k i (by omega) (by omega)
  have em : ∀ c i, ¬ (c = 174 ∧ i = 36) → hq_gi sm' c i = hq_gi sm c i := hm
  unfold hn_N hn_bold at h ⊢
  simp (disch := omega) only [ex, ej, em]
  exact h
theorem hr_told_e (ht : t ≤ 25) (hx : hx_e t sx sx') (hm : hm_e sm sm') (h : hr_told nc nl ng nt t sx sm) : hr_told nc nl ng nt t sx' sm' := by
  have ex := hx.1
  have ej : ∀ i, hq_gj sx' (t + 14) i = hq_gj sx (t + 14) i := fun i => hx.2.2 _ i (by omega) (by omega)
  have em : ∀ c i, ¬ (c = 174 ∧ i = 36) → hq_gi sm' c i = hq_gi sm c i := hm
  unfold hr_told hr_rule at h ⊢
  simp (disch := omega) only [ex, ej, em]
  exact h
theorem hh_S_e (hx : hx_e t sx sx') (hm : hm_e sm sm') (h : hh_S nc nl ng nt t u k nx fa sx sm) : hh_S nc nl ng nt t u k nx fa sx' sm' := by
  obtain ⟨h1, h2, h3, h4, h5, h6, h7, h8⟩ := h
  have ex := hx.1
  have er := hx.2.1
  have em : ∀ c i, ¬ (c = 174 ∧ i = 36) → hq_gi sm' c i = hq_gi sm c i := hm
  refine ⟨hr_told_e (by omega) hx hm h1, h2, ?_, h4, ?_, ?_, ?_, ?_⟩
  · simp only [er]; exact h3
  · unfold hl_S at h5 ⊢; simp only [ex]; exact h5
  · unfold hl_R at h6 ⊢; simp (disch := omega) only [em]; exact h6
  · simp only [ex]; exact h7
  · simp (disch := omega) only [em]; exact h8
end
/-! how far the nearest guard is -/
section
variable {N nc nl ng nt t u k l : Nat} {nx : Nat → Nat} {fa : Nat → Nat → Nat} {sx sm : hq_S}
theorem hh_near (hN : 10 < N) (hl : l < 23) (S : hh_S nc nl ng nt t u k nx fa sx sm) (W : hn_N nc ng nt k l sx sm) {c : Nat} (hc : c < nc) : ∃ v : Nat, v ≤ 99 ∧ f_X3_nearest N (Int32.ofNat c) sx = some (Int32.ofNat v, sx) ∧ f_X12_farOf N (Int32.ofNat l) (Int32.ofNat c) sm = some (Int32.ofNat v, sm) := by
  obtain ⟨T, ⟨dt, du, dk⟩, ⟨r0, r1, r2⟩, ⟨-, F⟩, -, -, fx, fm⟩ := S
  obtain ⟨⟨hnc, -, hng, -⟩, ⟨-, -, -, -, g1, g2, -⟩, -⟩ := T
  have wg := W.2.2.2.2.2.1
  have iT : hq_isT t := dt
  have iS : hq_isS u := du
  have iN : hq_isN k := by rcases dk with rfl | rfl <;> decide
  have l2 : hq_ld sm 176 14 2 = some (Int32.ofNat ng) := by rw [nb_lit 2, nn_ld (by omega) (by omega), g2]
  have key : ∀ (r j m m' v : Nat), j + r = ng → r < m → r < m' → v ≤ 99 → ∃ w : Nat, w ≤ 99 ∧ f_X3_nearest_L5 N m (Int32.ofNat c) (Int32.ofNat v) (Int32.ofNat j) sx = some (Int32.ofNat w, sx) ∧ f_X12_farOf_L6 N m' (Int32.ofNat l) (Int32.ofNat c) (Int32.ofNat v) (Int32.ofNat j) sm = some (Int32.ofNat w, sm) := by
    intro r
    induction r with
    | zero =>
      intro j m m' v hj hm hm' hv
      obtain ⟨m, rfl⟩ : ∃ k, m = k + 1 := ⟨m - 1, by omega⟩
      obtain ⟨m', rfl⟩ : ∃ k, m' = k + 1 := ⟨m' - 1, by omega⟩
      have cc : ¬ Int32.ofNat j < Int32.ofNat ng := by rw [nn_lt (by omega) (by omega)]; omega
      refine ⟨v, hv, ?_, ?_⟩
      · simp only [f_X3_nearest_L5_s, f_X3_nearest_L5_B, r0, if_pos iT, g1, if_neg cc]
      · simp only [f_X12_farOf_L6_s, f_X12_farOf_L6_B, l2, Option.bind_some, if_neg cc]
    | succ r ih =>
      intro j m m' v hj hm hm' hv
      obtain ⟨m, rfl⟩ : ∃ k, m = k + 1 := ⟨m - 1, by omega⟩
      obtain ⟨m', rfl⟩ : ∃ k, m' = k + 1 := ⟨m' - 1, by omega⟩
      have cc : Int32.ofNat j < Int32.ofNat ng := (nn_lt (by omega) (by omega)).mpr (by omega)
      obtain ⟨a, ha, a1, a2⟩ := (wg j (by omega)).1
      have hF := F a c
      have x1 : hq_ld sx (k + 2) 3 (Int32.ofNat j) = some (Int32.ofNat a) := by rw [nn_ld (by omega) (by omega), a1]
      have x2 : hq_ld sx (u + 2) 100 (Int32.ofNat (10 * a + c)) = some (Int32.ofNat (fa a c)) := by rw [nn_ld (by omega) (by omega), fx a c ha hc]
      have m1 : hq_ld sm 200 69 (Int32.ofNat (3 * l + j)) = some (Int32.ofNat a) := by rw [nn_ld (by omega) (by omega), a2]
      have m2 : hq_ld sm 207 100 (Int32.ofNat (10 * a + c)) = some (Int32.ofNat (fa a c)) := by rw [nn_ld (by omega) (by omega), fm a c ha hc]
      obtain ⟨w, w1, w2, w3⟩ := ih (j + 1) m m' (min v (fa a c)) (by omega) (by omega) (by omega) (by omega)
      refine ⟨w, w1, ?_, ?_⟩
      · simp only [f_X3_nearest_L5_s, f_X3_nearest_L5_B, f_X8_lanesBetween, r0, r1, r2, if_pos iT, if_pos iS, if_pos iN, g1, if_pos cc, x1, x2, nb_10m, nb_add, Option.bind_some, nb_min (show v < 2147483648 by omega) (show fa a c < 2147483648 by omega), nn_succ]
        exact w2
      · simp only [f_X12_farOf_L6_s, f_X12_farOf_L6_B, l2, Option.bind_some, if_pos cc, nb_m3, nb_m10, nb_add, m1, m2, nb_min (show v < 2147483648 by omega) (show fa a c < 2147483648 by omega), nn_succ]
        exact w3
  exact key ng 0 N N 99 (by omega) (by omega) (by omega) (by omega)
end
