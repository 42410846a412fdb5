/-! MATCH: the reference, thief by thief, guard by guard -/
def mt_dg (ng row g : Nat) : Int32 := if row / 5 ^ (ng - 1 - g) % 5 = 4 then -2 else Int32.ofNat (row / 5 ^ (ng - 1 - g) % 5)
def mt_M (nc ng nt : Nat) (fe : Nat → Bool) (gc tc : Nat → Nat) (fa : Nat → Nat → Nat) (s : hq_S) : Prop := (hq_gi s 176 2 = Int32.ofNat ng ∧ hq_gi s 176 3 = Int32.ofNat nt) ∧ (∀ i, i < nt → (hq_gi s 205 i = -1) = (fe i = true)) ∧ (∀ g, g < ng → gc g < nc ∧ hq_gi s 200 g = Int32.ofNat (gc g)) ∧ (∀ i, i < nt → tc i < nc ∧ hq_gi s 203 i = Int32.ofNat (tc i)) ∧ ∀ a b, a < nc → b < nc → hq_gi s 207 (10 * a + b) = Int32.ofNat (fa a b)
def mt_k (s s' : hq_S) : Prop := ∀ c i, ¬ c = 174 → ¬ c = 222 → ¬ c = 223 → hq_gi s' c i = hq_gi s c i
def mt_r (ng : Nat) (B : Nat × Int32) (s : hq_S) : Prop := (B.2 = -1 ∧ hq_gi s 174 72 = -1) ∨ ∃ c d : Nat, c ≤ 3 ∧ d ≤ 297 ∧ B.2 = Int32.ofNat (1000 * c + 999 - d) ∧ hq_gi s 174 72 = Int32.ofNat c ∧ hq_gi s 174 73 = Int32.ofNat d ∧ ∀ g, g < ng → hq_gi s 223 g = mt_dg ng B.1 g
section
variable {N nc ng nt : Nat} {fe : Nat → Bool} {gc tc : Nat → Nat} {fa : Nat → Nat → Nat} {s s' : hq_S} {f : Nat → Int32} {z : Nat}
theorem mt_M_k (h : mt_k s s') (M : mt_M nc ng nt fe gc tc fa s) : mt_M nc ng nt fe gc tc fa s' := by
  obtain ⟨⟨m1, m2⟩, m3, m4, m5, m6⟩ := M
  refine ⟨⟨by rw [h _ _ (by omega) (by omega) (by omega)]; exact m1, by rw [h _ _ (by omega) (by omega) (by omega)]; exact m2⟩, fun i hi => by rw [h _ _ (by omega) (by omega) (by omega)]; exact m3 i hi, fun g hg => ⟨(m4 g hg).1, by rw [h _ _ (by omega) (by omega) (by omega)]; exact (m4 g hg).2⟩, fun i hi => ⟨(m5 i hi).1, by rw [h _ _ (by omega) (by omega) (by omega)]; exact (m5 i hi).2⟩, fun a b ha hb => by rw [h _ _ (by omega) (by omega) (by omega)]; exact m6 a b ha hb⟩
theorem mt_50 {R0 : Int32 → Int32 → Int32 → Int32 → hq_S → Option hq_S} {a2 a3 a4 : Int32} {n : Nat} (hn : n ≤ 3) : ∀ (q j m : Nat) (s : hq_S), j + q = n → q < m → (∀ g, g < j → hq_gi s 223 g = hq_gi s 222 g) → ∃ s', f_X12_matches_L50 N R0 m (Int32.ofNat n) a2 a3 a4 (Int32.ofNat j) s = some s' ∧ (∀ g, g < n → hq_gi s' 223 g = hq_gi s 222 g) ∧ ∀ c i, ¬ c = 223 → hq_gi s' c i = hq_gi s c i := by
  intro q
  induction q with
  | zero =>
    intro j m s hj hm h
    obtain ⟨m, rfl⟩ : ∃ k, m = k + 1 := ⟨m - 1, by omega⟩
    have hj : j = n := by omega
    subst hj
    have c : ¬ Int32.ofNat j < Int32.ofNat j := by rw [nn_lt (by omega) (by omega)]; omega
    exact ⟨s, by simp only [f_X12_matches_L50_s, f_X12_matches_L50_B, if_neg c], h, fun _ _ _ => rfl⟩
  | succ q ih =>
    intro j m s hj hm h
    obtain ⟨m, rfl⟩ : ∃ k, m = k + 1 := ⟨m - 1, by omega⟩
    have c : Int32.ofNat j < Int32.ofNat n := (nn_lt (by omega) (by omega)).mpr (by omega)
    have ld : hq_ld s 222 3 (Int32.ofNat j) = some (hq_gi s 222 j) := nn_ld (by omega) (by omega)
    have st : ∀ v, hq_st s 223 3 (Int32.ofNat j) v = some (hq_si s 223 j v) := fun v => nn_st (by omega) (by omega)
    have o2 : ∀ g, hq_gi (hq_si s 223 j (hq_gi s 222 j)) 222 g = hq_gi s 222 g := fun g => by rw [nb_ii, if_neg (fun z => by omega)]
    obtain ⟨s', e1, e2, e3⟩ := ih (j + 1) m (hq_si s 223 j (hq_gi s 222 j)) (by omega) (by omega) (fun g hg => by
      rw [o2, nb_ii]
      by_cases q1 : g = j
      · subst q1; rw [if_pos ⟨rfl, rfl⟩]
      · rw [if_neg (fun z => q1 z.2)]; exact h g (by omega))
    refine ⟨s', ?_, fun g hg => by rw [e2 g hg, o2], fun c i hc => by rw [e3 c i hc, nb_ii, if_neg (fun z => hc z.1)]⟩
    rw [← e1]
    simp only [f_X12_matches_L50_s, f_X12_matches_L50_B, if_pos c, ld, st, Option.bind_some, nn_succ]
theorem mt_leaf {R0 : Int32 → Int32 → Int32 → Int32 → hq_S → Option hq_S} {a2 : Int32} {P c d : Nat} (hN : 10 < N) (hng : ng ≤ 3) (hc : c ≤ 3) (hd : d ≤ 297) (M : mt_M nc ng nt fe gc tc fa s) (D : ∀ g, g < ng → hq_gi s 222 g = mt_dg ng P g) (hf : f P = Int32.ofNat (1000 * c + 999 - d)) (r : mt_r ng (mt_b f z P) s) : ∃ s', f_X12_matches_S N R0 (Int32.ofNat ng) a2 (Int32.ofNat c) (Int32.ofNat d) s = some s' ∧ mt_k s s' ∧ mt_r ng (mt_b f z (P + 1)) s' ∧ ∀ g, hq_gi s' 222 g = hq_gi s 222 g := by
  have l2 : hq_ld s 176 14 2 = some (Int32.ofNat ng) := by rw [nb_lit 2, nn_ld (by omega) (by omega), M.1.1]
  have store : (mt_b f z P).2 < f P → ∃ s', f_X12_matches_J36 N R0 (Int32.ofNat ng) a2 (Int32.ofNat c) (Int32.ofNat d) s = some s' ∧ mt_k s s' ∧ mt_r ng (mt_b f z (P + 1)) s' ∧ ∀ g, hq_gi s' 222 g = hq_gi s 222 g := by
    intro hlt
    obtain ⟨s1, e1, e2, e3⟩ := mt_50 (N := N) (R0 := R0) (a2 := a2) (a3 := Int32.ofNat c) (a4 := Int32.ofNat d) hng ng 0 N (hq_si (hq_si s 174 72 (Int32.ofNat c)) 174 73 (Int32.ofNat d)) (by omega) (by omega) (fun g hg => by omega)
    have o : ∀ c' i, ¬ c' = 174 → hq_gi (hq_si (hq_si s 174 72 (Int32.ofNat c)) 174 73 (Int32.ofNat d)) c' i = hq_gi s c' i := fun c' i h => by rw [nb_ii, if_neg (fun z => h z.1), nb_ii, if_neg (fun z => h z.1)]
    refine ⟨s1, ?_, fun c' i h1 h2 h3 => by rw [e3 c' i h3, o c' i h1], Or.inr ⟨c, d, hc, hd, ?_, ?_, ?_, fun g hg => ?_⟩, fun g => by rw [e3 _ _ (by omega), o _ _ (by omega)]⟩
    · simp only [f_X12_matches_J36, nn_pi, Option.bind_some]
      exact e1
    · rw [mt_b, if_pos hlt]; exact hf
    · rw [e3 _ _ (by omega), nb_ii, if_neg (fun z => by omega), nb_ii, if_pos ⟨rfl, rfl⟩]
    · rw [e3 _ _ (by omega), nb_ii, if_pos ⟨rfl, rfl⟩]
    · rw [e2 g hg, o _ _ (by omega), D g hg, mt_b, if_pos hlt]
  have skip : ¬ (mt_b f z P).2 < f P → ∃ s', some s = some s' ∧ mt_k s s' ∧ mt_r ng (mt_b f z (P + 1)) s' ∧ ∀ g, hq_gi s' 222 g = hq_gi s 222 g := fun hlt => ⟨s, rfl, fun _ _ _ _ _ => rfl, by rw [mt_b, if_neg hlt]; exact r, fun _ => rfl⟩
  rcases r with ⟨r1, r2⟩ | ⟨c0, d0, h1, h2, r1, r2, r3, -⟩
  · obtain ⟨s', e, k⟩ := store (by
      rw [r1, hf]
      rcases Int32.lt_or_le (-1 : Int32) (Int32.ofNat (1000 * c + 999 - d)) with h | h
      · exact h
      · exact absurd (Int32.lt_of_le_of_lt h (by decide : (-1 : Int32) < 0)) (nn_nlt0 (by omega)))
    have n1 : ¬ Int32.ofNat c < (-1 : Int32) := fun h => nn_nlt0 (a := c) (by omega) (Int32.lt_trans h (by decide))
    have n2 : ¬ Int32.ofNat c = (-1 : Int32) := fun h => nn_nlt0 (a := c) (by omega) (by rw [h]; decide)
    refine ⟨s', ?_, k⟩
    rw [← e]
    simp only [f_X12_matches_S, l2, Option.bind_some, if_true, r2, if_neg n1, if_neg n2]
  · have lt := nb_ltp (show c < 2147483648 by omega) (show c0 < 2147483648 by omega)
    have eq := nb_eq (show c < 2147483648 by omega) (show c0 < 2147483648 by omega)
    have ld := nb_ltp (show d < 2147483648 by omega) (show d0 < 2147483648 by omega)
    have lb := nb_ltp (show 1000 * c0 + 999 - d0 < 2147483648 by omega) (show 1000 * c + 999 - d < 2147483648 by omega)
    rw [r1, hf, lb] at store skip
    by_cases q1 : c < c0
    · obtain ⟨s', e, k⟩ := skip (by omega)
      refine ⟨s', ?_, k⟩
      rw [← e]
      simp only [f_X12_matches_S, l2, Option.bind_some, if_true, r2, lt, if_pos q1]
    · by_cases q2 : c = c0
      · by_cases q3 : d < d0
        · obtain ⟨s', e, k⟩ := store (by omega)
          refine ⟨s', ?_, k⟩
          rw [← e]
          simp only [f_X12_matches_S, l2, Option.bind_some, if_true, r2, r3, lt, if_neg q1, eq, if_pos q2, ld, if_pos q3]
        · obtain ⟨s', e, k⟩ := skip (by omega)
          refine ⟨s', ?_, k⟩
          rw [← e]
          simp only [f_X12_matches_S, l2, Option.bind_some, if_true, r2, r3, lt, if_neg q1, eq, if_pos q2, ld, if_neg q3]
      · obtain ⟨s', e, k⟩ := store (by omega)
        refine ⟨s', ?_, k⟩
        rw [← e]
        simp only [f_X12_matches_S, l2, Option.bind_some, if_true, r2, lt, if_neg q1, eq, if_neg q2]
/-- rows that are none change nothing -/
theorem mt_skip {a : Nat} : ∀ n, (∀ x, x < n → f (a + x) = -1) → mt_r ng (mt_b f z a) s → mt_b f z (a + n) = mt_b f z a := by
  intro n
  induction n with
  | zero => intro _ _; rfl
  | succ n ih =>
    intro h r
    have e := ih (fun x hx => h x (by omega)) r
    show (if (mt_b f z (a + n)).2 < f (a + n) then (a + n, f (a + n)) else mt_b f z (a + n)) = _
    rw [e, h n (by omega), if_neg]
    rcases r with ⟨r1, -⟩ | ⟨c, d, h1, h2, r1, -⟩
    · rw [r1]; decide
    · rw [r1]
      exact fun h => nn_nlt0 (a := 1000 * c + 999 - d) (by omega) (Int32.lt_trans h (by decide))
theorem mt_free {i : Nat} (hnt : nt ≤ 4) (M : mt_M nc ng nt fe gc tc fa s) (hi : i < nt) : f_X12_isFree N 0 (Int32.ofNat i) s = some (if fe i = true then 1 else 0, s) := by
  have e := M.2.1 i hi
  show f_X12_isFree N (Int32.ofNat 0) (Int32.ofNat i) s = _
  have ld : hq_ld s 205 92 (Int32.ofNat i) = some (hq_gi s 205 i) := nn_ld (by omega) (by omega)
  by_cases q : fe i = true
  · simp only [f_X12_isFree, nb_m4, nb_add, Nat.mul_zero, Nat.zero_add, ld, Option.bind_some, e, if_pos q]
  · simp only [f_X12_isFree, nb_m4, nb_add, Nat.mul_zero, Nat.zero_add, ld, Option.bind_some, e, if_neg q]
end
