/-! THE NIGHT FROM THE TEXT: the reference's town number l -/
section
variable {N l : Nat}
theorem hm_o_tr {o s s' : hq_S} (h1 : hm_o l o s) (h2 : hm_o l s s') : hm_o l o s' := fun c i a b d => (h2 c i a b d).trans (h1 c i a b d)
theorem st_124 (hl : l < 23) : ∀ (q j m : Nat) (s : hq_S), j + q = 4 → q < m → (∀ i, i < j → hq_gi s 203 (4 * l + i) = hq_gi s 188 i ∧ hq_gi s 204 (4 * l + i) = 0 ∧ hq_gi s 205 (4 * l + i) = -1) → ∃ s', f_X12_starts_L124 N m (Int32.ofNat l) (Int32.ofNat j) s = some s' ∧ (∀ i, i < 4 → hq_gi s' 203 (4 * l + i) = hq_gi s 188 i ∧ hq_gi s' 204 (4 * l + i) = 0 ∧ hq_gi s' 205 (4 * l + i) = -1) ∧ (∀ c i, c < 203 ∨ 205 < c → hq_gi s' c i = hq_gi s c i) ∧ hm_o l s s' := by
  intro q
  induction q with
  | zero =>
    intro j m s hj hm h
    obtain ⟨m, rfl⟩ : ∃ k, m = k + 1 := ⟨m - 1, by omega⟩
    have c : ¬ Int32.ofNat j < (4 : Int32) := by rw [nb_lit 4, nn_lt (by omega) (by omega)]; omega
    exact ⟨s, by simp only [f_X12_starts_L124_s, f_X12_starts_L124_B, if_neg c], fun i hi => h i (by omega), fun _ _ _ => rfl, fun _ _ _ _ _ => rfl⟩
  | succ q ih =>
    intro j m s hj hm h
    obtain ⟨m, rfl⟩ : ∃ k, m = k + 1 := ⟨m - 1, by omega⟩
    have c : Int32.ofNat j < (4 : Int32) := by rw [nb_lit 4, nn_lt (by omega) (by omega)]; omega
    have ld : hq_ld s 188 8 (Int32.ofNat j) = some (hq_gi s 188 j) := nn_ld (by omega) (by omega)
    have st : ∀ (s : hq_S) (d : Nat) (v : Int32), hq_st s d 92 (Int32.ofNat (4 * l + j)) v = some (hq_si s d (4 * l + j) v) := fun s d v => nn_st (by omega) (by omega)
    let w : hq_S := hq_si (hq_si (hq_si s 203 (4 * l + j) (hq_gi s 188 j)) 204 (4 * l + j) 0) 205 (4 * l + j) (-1)
    have o : ∀ c i, c < 203 ∨ 205 < c ∨ ¬ i = 4 * l + j → hq_gi w c i = hq_gi s c i := fun c i h => by
      show hq_gi (hq_si (hq_si (hq_si s 203 (4 * l + j) (hq_gi s 188 j)) 204 (4 * l + j) 0) 205 (4 * l + j) (-1)) c i = _
      rw [nb_ii, if_neg (fun z => by omega), nb_ii, if_neg (fun z => by omega), nb_ii, if_neg (fun z => by omega)]
    have w3 : hq_gi w 203 (4 * l + j) = hq_gi s 188 j := by
      show hq_gi (hq_si (hq_si (hq_si s 203 (4 * l + j) (hq_gi s 188 j)) 204 (4 * l + j) 0) 205 (4 * l + j) (-1)) 203 (4 * l + j) = _
      rw [nb_ii, if_neg (fun z => by omega), nb_ii, if_neg (fun z => by omega), nb_ii, if_pos ⟨rfl, rfl⟩]
    have w4 : hq_gi w 204 (4 * l + j) = 0 := by
      show hq_gi (hq_si (hq_si (hq_si s 203 (4 * l + j) (hq_gi s 188 j)) 204 (4 * l + j) 0) 205 (4 * l + j) (-1)) 204 (4 * l + j) = _
      rw [nb_ii, if_neg (fun z => by omega), nb_ii, if_pos ⟨rfl, rfl⟩]
    have w5 : hq_gi w 205 (4 * l + j) = -1 := by
      show hq_gi (hq_si (hq_si (hq_si s 203 (4 * l + j) (hq_gi s 188 j)) 204 (4 * l + j) 0) 205 (4 * l + j) (-1)) 205 (4 * l + j) = _
      rw [nb_ii, if_pos ⟨rfl, rfl⟩]
    obtain ⟨s', e1, e2, e3, e4⟩ := ih (j + 1) m w (by omega) (by omega) (fun i hi => by
      by_cases q : i = j
      · rw [q, w3, w4, w5, o 188 j (by omega)]; exact ⟨rfl, rfl, rfl⟩
      · rw [o _ _ (by omega), o _ _ (by omega), o _ _ (by omega), o _ _ (by omega)]; exact h i (by omega))
    refine ⟨s', ?_, fun i hi => by have := e2 i hi; rw [o 188 i (by omega)] at this; exact this, fun c i hc => by rw [e3 c i hc, o c i (by omega)], hm_o_tr (fun c i h1 h2 h3 => o c i (by
      by_cases q : i = 4 * l + j
      · by_cases q2 : c < 203
        · exact Or.inl q2
        · exact absurd (Or.inr (Or.inr (Or.inr ⟨by omega, by omega, by omega, by omega⟩))) h3
      · exact Or.inr (Or.inr q))) e4⟩
    rw [← e1]
    simp only [f_X12_starts_L124_s, f_X12_starts_L124_B, if_pos c, ld, Option.bind_some, nb_m4, nb_add, st, nn_succ]
    rfl
theorem st_73 (hl : l < 23) : ∀ (q j m : Nat) (s : hq_S), j + q = 3 → q < m → (∀ i, i < j → hq_gi s 200 (3 * l + i) = hq_gi s 184 i ∧ hq_gi s 201 (3 * l + i) = 0 ∧ hq_gi s 202 (3 * l + i) = 0) → ∃ s', f_X12_starts_L73 N m (Int32.ofNat l) (Int32.ofNat j) s = f_X12_starts_L124 N N (Int32.ofNat l) 0 s' ∧ (∀ i, i < 3 → hq_gi s' 200 (3 * l + i) = hq_gi s 184 i ∧ hq_gi s' 201 (3 * l + i) = 0 ∧ hq_gi s' 202 (3 * l + i) = 0) ∧ (∀ c i, c < 200 ∨ 202 < c → hq_gi s' c i = hq_gi s c i) ∧ hm_o l s s' := by
  intro q
  induction q with
  | zero =>
    intro j m s hj hm h
    obtain ⟨m, rfl⟩ : ∃ k, m = k + 1 := ⟨m - 1, by omega⟩
    have c : ¬ Int32.ofNat j < (3 : Int32) := by rw [nb_lit 3, nn_lt (by omega) (by omega)]; omega
    exact ⟨s, by simp only [f_X12_starts_L73_s, f_X12_starts_L73_B, if_neg c], fun i hi => h i (by omega), fun _ _ _ => rfl, fun _ _ _ _ _ => rfl⟩
  | succ q ih =>
    intro j m s hj hm h
    obtain ⟨m, rfl⟩ : ∃ k, m = k + 1 := ⟨m - 1, by omega⟩
    have c : Int32.ofNat j < (3 : Int32) := by rw [nb_lit 3, nn_lt (by omega) (by omega)]; omega
    have ld : hq_ld s 184 6 (Int32.ofNat j) = some (hq_gi s 184 j) := nn_ld (by omega) (by omega)
    have st : ∀ (s : hq_S) (d : Nat) (v : Int32), hq_st s d 69 (Int32.ofNat (3 * l + j)) v = some (hq_si s d (3 * l + j) v) := fun s d v => nn_st (by omega) (by omega)
    let w : hq_S := hq_si (hq_si (hq_si s 200 (3 * l + j) (hq_gi s 184 j)) 201 (3 * l + j) 0) 202 (3 * l + j) 0
    have o : ∀ c i, c < 200 ∨ 202 < c ∨ ¬ i = 3 * l + j → hq_gi w c i = hq_gi s c i := fun c i h => by
      show hq_gi (hq_si (hq_si (hq_si s 200 (3 * l + j) (hq_gi s 184 j)) 201 (3 * l + j) 0) 202 (3 * l + j) 0) c i = _
      rw [nb_ii, if_neg (fun z => by omega), nb_ii, if_neg (fun z => by omega), nb_ii, if_neg (fun z => by omega)]
    have w3 : hq_gi w 200 (3 * l + j) = hq_gi s 184 j := by
      show hq_gi (hq_si (hq_si (hq_si s 200 (3 * l + j) (hq_gi s 184 j)) 201 (3 * l + j) 0) 202 (3 * l + j) 0) 200 (3 * l + j) = _
      rw [nb_ii, if_neg (fun z => by omega), nb_ii, if_neg (fun z => by omega), nb_ii, if_pos ⟨rfl, rfl⟩]
    have w4 : hq_gi w 201 (3 * l + j) = 0 := by
      show hq_gi (hq_si (hq_si (hq_si s 200 (3 * l + j) (hq_gi s 184 j)) 201 (3 * l + j) 0) 202 (3 * l + j) 0) 201 (3 * l + j) = _
      rw [nb_ii, if_neg (fun z => by omega), nb_ii, if_pos ⟨rfl, rfl⟩]
    have w5 : hq_gi w 202 (3 * l + j) = 0 := by
      show hq_gi (hq_si (hq_si (hq_si s 200 (3 * l + j) (hq_gi s 184 j)) 201 (3 * l + j) 0) 202 (3 * l + j) 0) 202 (3 * l + j) = _
      rw [nb_ii, if_pos ⟨rfl, rfl⟩]
    obtain ⟨s', e1, e2, e3, e4⟩ := ih (j + 1) m w (by omega) (by omega) (fun i hi => by
      by_cases q : i = j
      · rw [q, w3, w4, w5, o 184 j (by omega)]; exact ⟨rfl, rfl, rfl⟩
      · rw [o _ _ (by omega), o _ _ (by omega), o _ _ (by omega), o _ _ (by omega)]; exact h i (by omega))
    refine ⟨s', ?_, fun i hi => by have := e2 i hi; rw [o 184 i (by omega)] at this; exact this, fun c i hc => by rw [e3 c i hc, o c i (by omega)], hm_o_tr (fun c i h1 h2 h3 => o c i (by
      by_cases q : i = 3 * l + j
      · by_cases q2 : c < 200 ∨ 202 < c
        · omega
        · exact absurd (Or.inr (Or.inr (Or.inl ⟨by omega, by omega, by omega, by omega⟩))) h3
      · exact Or.inr (Or.inr q))) e4⟩
    rw [← e1]
    simp only [f_X12_starts_L73_s, f_X12_starts_L73_B, if_pos c, ld, Option.bind_some, nb_m3, nb_add, st, nn_succ]
    rfl
theorem st_28 {nc : Nat} (hl : l < 23) (hnc : nc ≤ 10) : ∀ (q j m : Nat) (s : hq_S), j + q = 10 → q < m → hq_gi s 176 0 = Int32.ofNat nc → (∀ i, i < j → hq_gi s 199 (10 * l + i) = if i < nc then hq_gi s 179 i else 0) → ∃ s', f_X12_starts_L28 N m (Int32.ofNat l) (Int32.ofNat j) s = f_X12_starts_L73 N N (Int32.ofNat l) 0 s' ∧ (∀ i, i < 10 → hq_gi s' 199 (10 * l + i) = if i < nc then hq_gi s 179 i else 0) ∧ (∀ c i, ¬ c = 199 → hq_gi s' c i = hq_gi s c i) ∧ hm_o l s s' := by
  intro q
  induction q with
  | zero =>
    intro j m s hj hm h0 h
    obtain ⟨m, rfl⟩ : ∃ k, m = k + 1 := ⟨m - 1, by omega⟩
    have c : ¬ Int32.ofNat j < (10 : Int32) := by rw [nb_lit 10, nn_lt (by omega) (by omega)]; omega
    exact ⟨s, by simp only [f_X12_starts_L28_s, f_X12_starts_L28_B, if_neg c], fun i hi => h i (by omega), fun _ _ _ => rfl, fun _ _ _ _ _ => rfl⟩
  | succ q ih =>
    intro j m s hj hm h0 h
    obtain ⟨m, rfl⟩ : ∃ k, m = k + 1 := ⟨m - 1, by omega⟩
    have c : Int32.ofNat j < (10 : Int32) := by rw [nb_lit 10, nn_lt (by omega) (by omega)]; omega
    have l0 : hq_ld s 176 14 0 = some (Int32.ofNat nc) := by rw [nb_0, nn_ld (by omega) (by omega), h0]
    have ld : hq_ld s 179 20 (Int32.ofNat j) = some (hq_gi s 179 j) := nn_ld (by omega) (by omega)
    have lt := nb_ltp (show j < 2147483648 by omega) (show nc < 2147483648 by omega)
    have st : ∀ (v : Int32), hq_st s 199 230 (Int32.ofNat (10 * l + j)) v = some (hq_si s 199 (10 * l + j) v) := fun v => nn_st (by omega) (by omega)
    have o : ∀ v c i, ¬ (c = 199 ∧ i = 10 * l + j) → hq_gi (hq_si s 199 (10 * l + j) v) c i = hq_gi s c i := fun v c i h => by rw [nb_ii, if_neg h]
    obtain ⟨s', e1, e2, e3, e4⟩ := ih (j + 1) m (hq_si s 199 (10 * l + j) (if j < nc then hq_gi s 179 j else 0)) (by omega) (by omega) (by rw [o _ _ _ (by omega)]; exact h0) (fun i hi => by
      rw [o _ 179 i (by omega)]
      by_cases q : i = j
      · rw [q, nb_ii, if_pos ⟨rfl, rfl⟩]
      · rw [o _ _ _ (by omega)]; exact h i (by omega))
    refine ⟨s', ?_, fun i hi => by have := e2 i hi; rw [o _ 179 i (by omega)] at this; exact this, fun c i hc => by rw [e3 c i hc, o _ c i (by omega)], hm_o_tr (fun c i h1 h2 h3 => o _ c i (fun z => h3 (Or.inr (Or.inl ⟨z.1, by omega, by omega⟩)))) e4⟩
    rw [← e1]
    by_cases q1 : j < nc
    · simp only [f_X12_starts_L28_s, f_X12_starts_L28_B, if_pos c, l0, lt, if_pos q1, ld, Option.bind_some, nb_m10, nb_add, st, nn_succ]
    · simp only [f_X12_starts_L28_s, f_X12_starts_L28_B, if_pos c, l0, lt, if_neg q1, Option.bind_some, nb_m10, nb_add, st, nn_succ]
/-- the town number l as the text tells it -/
theorem st_all {nc : Nat} {s : hq_S} (hN : 10 < N) (hl : l < 23) (hnc : nc ≤ 10) (h0 : hq_gi s 176 0 = Int32.ofNat nc) : ∃ s', f_X12_starts N (Int32.ofNat l) s = some s' ∧ (hq_gi s' 196 l = 0 ∧ hq_gi s' 197 l = hq_gi s 176 5 ∧ hq_gi s' 198 l = 0) ∧ (∀ i, i < 10 → hq_gi s' 199 (10 * l + i) = if i < nc then hq_gi s 179 i else 0) ∧ (∀ i, i < 3 → hq_gi s' 200 (3 * l + i) = hq_gi s 184 i ∧ hq_gi s' 201 (3 * l + i) = 0 ∧ hq_gi s' 202 (3 * l + i) = 0) ∧ (∀ i, i < 4 → hq_gi s' 203 (4 * l + i) = hq_gi s 188 i ∧ hq_gi s' 204 (4 * l + i) = 0 ∧ hq_gi s' 205 (4 * l + i) = -1) ∧ (∀ c i, c < 196 ∨ 205 < c → hq_gi s' c i = hq_gi s c i) ∧ hm_o l s s' := by
  have st : ∀ (s : hq_S) (d : Nat) (v : Int32), hq_st s d 23 (Int32.ofNat l) v = some (hq_si s d l v) := fun s d v => nn_st (by omega) (by omega)
  have ld : hq_ld (hq_si s 196 l 0) 176 14 5 = some (hq_gi s 176 5) := by rw [nb_lit 5, nn_ld (by omega) (by omega), nb_ii, if_neg (fun z => by omega)]
  let w : hq_S := hq_si (hq_si (hq_si s 196 l 0) 197 l (hq_gi s 176 5)) 198 l 0
  have o : ∀ c i, c < 196 ∨ 198 < c ∨ ¬ i = l → hq_gi w c i = hq_gi s c i := fun c i h => by
    show hq_gi (hq_si (hq_si (hq_si s 196 l 0) 197 l (hq_gi s 176 5)) 198 l 0) c i = _
    rw [nb_ii, if_neg (fun z => by omega), nb_ii, if_neg (fun z => by omega), nb_ii, if_neg (fun z => by omega)]
  have w6 : hq_gi w 196 l = 0 := by
    show hq_gi (hq_si (hq_si (hq_si s 196 l 0) 197 l (hq_gi s 176 5)) 198 l 0) 196 l = _
    rw [nb_ii, if_neg (fun z => by omega), nb_ii, if_neg (fun z => by omega), nb_ii, if_pos ⟨rfl, rfl⟩]
  have w7 : hq_gi w 197 l = hq_gi s 176 5 := by
    show hq_gi (hq_si (hq_si (hq_si s 196 l 0) 197 l (hq_gi s 176 5)) 198 l 0) 197 l = _
    rw [nb_ii, if_neg (fun z => by omega), nb_ii, if_pos ⟨rfl, rfl⟩]
  have w8 : hq_gi w 198 l = 0 := by
    show hq_gi (hq_si (hq_si (hq_si s 196 l 0) 197 l (hq_gi s 176 5)) 198 l 0) 198 l = _
    rw [nb_ii, if_pos ⟨rfl, rfl⟩]
  obtain ⟨s1, a1, a2, a3, a4⟩ := st_28 (N := N) hl hnc 10 0 N w (by omega) (by omega) (by rw [o _ _ (by omega)]; exact h0) (fun i hi => by omega)
  obtain ⟨s2, b1, b2, b3, b4⟩ := st_73 (N := N) hl 3 0 N s1 (by omega) (by omega) (fun i hi => by omega)
  obtain ⟨s3, c1, c2, c3, c4⟩ := st_124 (N := N) hl 4 0 N s2 (by omega) (by omega) (fun i hi => by omega)
  refine ⟨s3, ?_, ⟨by rw [c3 _ _ (by omega), b3 _ _ (by omega), a3 _ _ (by omega)]; exact w6, by rw [c3 _ _ (by omega), b3 _ _ (by omega), a3 _ _ (by omega)]; exact w7, by rw [c3 _ _ (by omega), b3 _ _ (by omega), a3 _ _ (by omega)]; exact w8⟩, fun i hi => by rw [c3 _ _ (by omega), b3 _ _ (by omega), a2 i hi, o _ _ (by omega)], fun i hi => by
    have := b2 i hi
    rw [c3 _ _ (by omega), c3 _ _ (by omega), c3 _ _ (by omega)]
    rw [a3 _ _ (by omega), o _ _ (by omega)] at this
    exact this, fun i hi => by
    have := c2 i hi
    rw [b3 _ _ (by omega), a3 _ _ (by omega), o _ _ (by omega)] at this
    exact this, fun c i hc => by rw [c3 _ _ (by omega), b3 _ _ (by omega), a3 _ _ (by omega), o _ _ (by omega)], hm_o_tr (hm_o_tr (hm_o_tr (fun c i h1 h2 h3 => o c i (by
      by_cases q : 198 < c
      · exact Or.inr (Or.inl q)
      · exact Or.inr (Or.inr (fun z => h3 (Or.inl ⟨h1, by omega, z⟩))))) a4) b4) c4⟩
  rw [← c1]
  refine Eq.trans ?_ b1
  refine Eq.trans ?_ a1
  simp only [f_X12_starts, st, ld, Option.bind_some]
  rfl
end
