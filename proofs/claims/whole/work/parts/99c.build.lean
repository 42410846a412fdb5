/-! THE CLASS'S STREETS: what is next, how far -/
theorem hw_ld1 {s : hq_S} {k L j : Nat} {g : Nat → Int32} (h : j < L) (hL : L < 2147483648) : hq_ld (hq_w s k g) k L (Int32.ofNat j) = some (g j) := by rw [hw_ld h hL, if_pos rfl]
theorem hw_ld2 {s : hq_S} {k k' L j : Nat} {g : Nat → Int32} (hk : ¬ k' = k) (h : j < L) (hL : L < 2147483648) : hq_ld (hq_w s k g) k' L (Int32.ofNat j) = some (hq_gi s k' j) := by rw [hw_ld h hL, if_neg hk]
theorem hw_st {s : hq_S} {k L j : Nat} {g : Nat → Int32} {x : Int32} (h : j < L) (hL : L < 2147483648) : hq_st (hq_w s k g) k L (Int32.ofNat j) x = some (hq_w s k fun i => if i = j then x else g i) := by rw [nn_st h hL, hw_ws]
def hl_X (t nl nc : Nat) (fr to on : Nat → Nat) (s : hq_S) : Prop := nc ≤ 10 ∧ nl ≤ 20 ∧ hq_gi s t 0 = Int32.ofNat nc ∧ hq_gi s t 3 = Int32.ofNat nl ∧ ∀ k, k < nl → fr k < nc ∧ to k < nc ∧ hq_gi s (t + 3) k = Int32.ofNat (fr k) ∧ hq_gi s (t + 4) k = Int32.ofNat (to k) ∧ on k ≤ 1 ∧ ((hq_gi s t 6) >>> (Int32.ofNat k &&& 31)) &&& (1 : Int32) = Int32.ofNat (on k)
theorem hl_X_w {t nl nc k : Nat} {fr to on : Nat → Nat} {s : hq_S} {g : Nat → Int32} (h : hl_X t nl nc fr to on s) (h1 : ¬ t = k) (h2 : ¬ t + 3 = k) (h3 : ¬ t + 4 = k) : hl_X t nl nc fr to on (hq_w s k g) := by
  unfold hl_X at h ⊢
  simp only [hw_n h1, hw_n h2, hw_n h3]
  exact h
/-- what is next by the streets u -/
def hl_S (u nc : Nat) (nx : Nat → Nat) (s : hq_S) : Prop := hq_gi s u 0 = Int32.ofNat nc ∧ ∀ c, c < 10 → hq_gi s (u + 1) c = Int32.ofNat (nx c)
theorem hl_S_w {u nc k : Nat} {nx : Nat → Nat} {s : hq_S} {g : Nat → Int32} (h : hl_S u nc nx s) (h1 : ¬ u = k) (h2 : ¬ u + 1 = k) : hl_S u nc nx (hq_w s k g) := by
  unfold hl_S at h ⊢
  simp only [hw_n h1, hw_n h2]
  exact h
section
variable {N u t nl nc : Nat} {nx fr to on : Nat → Nat} {s : hq_S}
theorem hb_anyL {e : Nat} (hnc : nc ≤ 10) (he : e < 2147483648) (h : hl_S u nc nx s) : ∀ (r j m : Nat), j + r = nc → r < m → f_X8_nextToAny_L4 N m u (Int32.ofNat e) (Int32.ofNat (bf_any nx e j)) (Int32.ofNat j) s = some (Int32.ofNat (bf_any nx e nc), s) := by
  intro r
  induction r with
  | zero =>
    intro j m hj hm
    obtain ⟨m, rfl⟩ : ∃ k, m = k + 1 := ⟨m - 1, by omega⟩
    have hj : j = nc := by omega
    subst hj
    have c : ¬ Int32.ofNat j < Int32.ofNat j := by rw [nn_lt (by omega) (by omega)]; omega
    simp only [f_X8_nextToAny_L4_s, f_X8_nextToAny_L4_B, h.1, if_neg c]
  | succ r ih =>
    intro j m hj hm
    obtain ⟨m, rfl⟩ : ∃ k, m = k + 1 := ⟨m - 1, by omega⟩
    have c : Int32.ofNat j < Int32.ofNat nc := (nn_lt (by omega) (by omega)).mpr (by omega)
    have ld : hq_ld s (u + 1) 10 (Int32.ofNat j) = some (Int32.ofNat (nx j)) := by rw [nn_ld (by omega) (by omega), h.2 j (by omega)]
    have ih := ih (j + 1) m (by omega) (by omega)
    by_cases q : e.testBit j = true
    · rw [bf_any, if_pos q] at ih
      simp only [f_X8_nextToAny_L4_s, f_X8_nextToAny_L4_B, h.1, if_pos c, nb_bit1 he (show j < 32 by omega), if_pos q, ld, Option.bind_some, nb_or, nn_succ]
      exact ih
    · rw [bf_any, if_neg q] at ih
      simp only [f_X8_nextToAny_L4_s, f_X8_nextToAny_L4_B, h.1, if_pos c, nb_bit1 he (show j < 32 by omega), if_neg q, Option.bind_some, nb_0, nb_or, nn_succ]
      exact ih
theorem hb_any {e : Nat} (hN : 10 < N) (hnc : nc ≤ 10) (he : e < 2147483648) (h : hl_S u nc nx s) : f_X8_nextToAny N u (Int32.ofNat e) s = some (Int32.ofNat (bf_any nx e nc), s) := hb_anyL hnc he h nc 0 N (by omega) (by omega)
/-- one lane more -/
theorem hb_lane {bar j : Nat} {both : Bool} {a3 : Int32} {g : Nat → Int32} {q : Nat → Nat → Int32 → Int32 → Int32 → hq_S → Option hq_S} (hu : u = 103 ∨ u = 108) (ht : t = 2 ∨ t = 25) (hb : a3 = if both = true then 1 else 0) (hbar : bar < 2147483648) (h : hl_X t nl nc fr to on s) (hj : j < nl) (hg : ∀ c, c < 10 → g c = Int32.ofNat (ly_nx fr to on bar both j c)) : ∃ g', f_X8_build_L19_B N q u t (Int32.ofNat bar) a3 (Int32.ofNat j) (hq_w s (u + 1) g) = q u t (Int32.ofNat bar) a3 (Int32.ofNat (j + 1)) (hq_w s (u + 1) g') ∧ ∀ c, c < 10 → g' c = Int32.ofNat (ly_nx fr to on bar both (j + 1) c) := by
  obtain ⟨hnc, hnl, h0, h3, hk⟩ := h
  obtain ⟨k1, k2, k3, k4, k5, k6⟩ := hk j hj
  have c : Int32.ofNat j < Int32.ofNat nl := (nn_lt (by omega) (by omega)).mpr (by omega)
  have e3 : hq_gi (hq_w s (u + 1) g) t 3 = Int32.ofNat nl := by rw [hw_n (by omega), h3]
  have lf : ∀ {g : Nat → Int32}, hq_ld (hq_w s (u + 1) g) (t + 3) 20 (Int32.ofNat j) = some (Int32.ofNat (fr j)) := fun {g} => by rw [hw_ld2 (by omega) (by omega) (by omega), k3]
  have lt : ∀ {g : Nat → Int32}, hq_ld (hq_w s (u + 1) g) (t + 4) 20 (Int32.ofNat j) = some (Int32.ofNat (to j)) := fun {g} => by rw [hw_ld2 (by omega) (by omega) (by omega), k4]
  have nf : ∀ {g : Nat → Int32}, hq_ld (hq_w s (u + 1) g) (u + 1) 10 (Int32.ofNat (fr j)) = some (g (fr j)) := fun {g} => hw_ld1 (by omega) (by omega)
  have nt : ∀ {g : Nat → Int32}, hq_ld (hq_w s (u + 1) g) (u + 1) 10 (Int32.ofNat (to j)) = some (g (to j)) := fun {g} => hw_ld1 (by omega) (by omega)
  have sf : ∀ {g : Nat → Int32} {x : Int32}, hq_st (hq_w s (u + 1) g) (u + 1) 10 (Int32.ofNat (fr j)) x = some (hq_w s (u + 1) fun i => if i = fr j then x else g i) := fun {g x} => hw_st (by omega) (by omega)
  have st : ∀ {g : Nat → Int32} {x : Int32}, hq_st (hq_w s (u + 1) g) (u + 1) 10 (Int32.ofNat (to j)) x = some (hq_w s (u + 1) fun i => if i = to j then x else g i) := fun {g x} => hw_st (by omega) (by omega)
  have p1 : (1 : Int32) <<< (Int32.ofNat (to j) &&& 31) = Int32.ofNat (2 ^ to j) := nb_one (by omega)
  have p2 : (1 : Int32) <<< (Int32.ofNat (fr j) &&& 31) = Int32.ofNat (2 ^ fr j) := nb_one (by omega)
  have d10 : ¬ (1 : Int32) = 0 := by decide
  have key : (¬ (both = false ∧ bar.testBit j = true)) → ∃ g', f_X8_build_J41 N q u t (Int32.ofNat bar) a3 (Int32.ofNat j) (hq_w s (u + 1) g) = q u t (Int32.ofNat bar) a3 (Int32.ofNat (j + 1)) (hq_w s (u + 1) g') ∧ ∀ c, c < 10 → g' c = Int32.ofNat (ly_nx fr to on bar both (j + 1) c) := by
    intro hn
    have fin : ∀ z : Nat, z = (if both = true ∨ on j = 0 then 2 ^ fr j else 0) → ∀ c, c < 10 → (fun i => if i = to j then (if to j = fr j then g (fr j) ||| Int32.ofNat (2 ^ to j) else g (to j)) ||| Int32.ofNat z else if i = fr j then g (fr j) ||| Int32.ofNat (2 ^ to j) else g i) c = Int32.ofNat (ly_nx fr to on bar both (j + 1) c) := by
      intro z hz c hc
      rw [ly_nx, if_neg hn, hg (fr j) (by omega), hg (to j) (by omega)]
      dsimp only
      rw [hg c hc, nb_or]
      by_cases q1 : c = to j
      · rw [if_pos q1]
        by_cases q2 : to j = fr j
        · rw [if_pos q2, nb_or, hz, if_pos (q1.trans q2), q1, q2]
          simp
        · rw [if_neg q2, nb_or, hz, if_neg (fun h => q2 (q1.symm.trans h)), q1, Nat.or_zero]
          simp
      · rw [if_neg q1]
        by_cases q2 : c = fr j
        · rw [if_pos q2, if_pos q2, if_neg (fun h => q1 h.2), Nat.or_zero, q2]
        · rw [if_neg q2, if_neg q2, if_neg (fun h => q1 h.2), Nat.or_zero, Nat.or_zero]
    by_cases hB : both = true
    · have a1 : a3 = 1 := by rw [hb, if_pos hB]
      refine ⟨_, ?_, fin (2 ^ fr j) (by rw [if_pos (Or.inl hB)])⟩
      simp only [f_X8_build_J41, f_X8_build_J118, lf, lt, nf, nt, sf, st, p1, p2, a1, if_neg d10, Option.bind_some, nn_succ]
    · have a0 : a3 = 0 := by rw [hb, if_neg hB]
      have e6 : ∀ {g : Nat → Int32}, hq_gi (hq_w s (u + 1) g) t 6 = hq_gi s t 6 := fun {g} => hw_n (by omega)
      by_cases ho : on j = 0
      · have ow : ∀ {g : Nat → Int32}, f_X10_isOneWay N t (Int32.ofNat j) (hq_w s (u + 1) g) = some (0, hq_w s (u + 1) g) := fun {g} => by
          unfold f_X10_isOneWay
          rw [e6, k6, ho, if_neg (by decide)]
        refine ⟨_, ?_, fin (2 ^ fr j) (by rw [if_pos (Or.inr ho)])⟩
        simp only [f_X8_build_J41, f_X8_build_J118, lf, lt, nf, nt, sf, st, p1, p2, a0, ow, if_true, if_neg d10, Option.bind_some, nn_succ]
      · have ow : ∀ {g : Nat → Int32}, f_X10_isOneWay N t (Int32.ofNat j) (hq_w s (u + 1) g) = some (1, hq_w s (u + 1) g) := fun {g} => by
          unfold f_X10_isOneWay
          rw [e6, k6, show on j = 1 by omega, if_pos (by decide)]
        refine ⟨_, ?_, fin 0 (by rw [if_neg (by rintro (h | h) <;> contradiction)])⟩
        simp only [f_X8_build_J41, f_X8_build_J118, lf, lt, nf, nt, sf, st, p1, p2, a0, ow, if_true, if_neg d10, Option.bind_some, nn_succ]
        rfl
  by_cases hB : both = true
  · have a1 : a3 = 1 := by rw [hb, if_pos hB]
    obtain ⟨g', e1, e2⟩ := key (by rw [hB]; rintro ⟨h, -⟩; cases h)
    refine ⟨g', ?_, e2⟩
    rw [← e1]
    simp only [f_X8_build_L19_B, e3, if_pos c, a1, if_neg d10]
  · have a0 : a3 = 0 := by rw [hb, if_neg hB]
    have hB' : both = false := by cases both <;> simp_all
    by_cases hq : bar.testBit j = true
    · refine ⟨g, ?_, fun c hc => by rw [ly_nx, if_pos ⟨hB', hq⟩]; exact hg c hc⟩
      simp only [f_X8_build_L19_B, f_X8_build_J118, e3, if_pos c, a0, if_true, nb_bit0 hbar (show j < 32 by omega), hq, nn_succ]
      rfl
    · obtain ⟨g', e1, e2⟩ := key (fun h => hq h.2)
      refine ⟨g', ?_, e2⟩
      rw [← e1]
      have hq' : bar.testBit j = false := by cases h : bar.testBit j <;> simp_all
      simp only [f_X8_build_L19_B, e3, if_pos c, a0, if_true, nb_bit0 hbar (show j < 32 by omega), hq']
theorem hb_lanes {bar : Nat} {both : Bool} {a3 : Int32} (hu : u = 103 ∨ u = 108) (ht : t = 2 ∨ t = 25) (hb : a3 = if both = true then 1 else 0) (hbar : bar < 2147483648) (h : hl_X t nl nc fr to on s) : ∀ (r j m : Nat) (g : Nat → Int32), j + r = nl → r < m → (∀ c, c < 10 → g c = Int32.ofNat (ly_nx fr to on bar both j c)) → ∃ g', f_X8_build_L19 N m u t (Int32.ofNat bar) a3 (Int32.ofNat j) (hq_w s (u + 1) g) = f_X8_build_L127 N N u t (Int32.ofNat bar) a3 0 (hq_w s (u + 1) g') ∧ ∀ c, c < 10 → g' c = Int32.ofNat (ly_nx fr to on bar both nl c) := by
  intro r
  induction r with
  | zero =>
    intro j m g hj hm hg
    obtain ⟨m, rfl⟩ : ∃ k, m = k + 1 := ⟨m - 1, by omega⟩
    have hj : j = nl := by omega
    subst hj
    have hl := h.2.1
    have c : ¬ Int32.ofNat j < Int32.ofNat j := by rw [nn_lt (by omega) (by omega)]; omega
    have e3 : hq_gi (hq_w s (u + 1) g) t 3 = Int32.ofNat j := by rw [hw_n (by omega), h.2.2.2.1]
    exact ⟨g, by simp only [f_X8_build_L19_s, f_X8_build_L19_B, e3, if_neg c], hg⟩
  | succ r ih =>
    intro j m g hj hm hg
    obtain ⟨m, rfl⟩ : ∃ k, m = k + 1 := ⟨m - 1, by omega⟩
    obtain ⟨g', e1, e2⟩ := hb_lane (N := N) (q := f_X8_build_L19 N m) hu ht hb hbar h (show j < nl by omega) hg
    obtain ⟨g2, e3, e4⟩ := ih (j + 1) m g' (by omega) (by omega) e2
    exact ⟨g2, by rw [f_X8_build_L19_s, e1, e3], e4⟩
end
