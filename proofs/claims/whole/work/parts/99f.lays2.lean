/-! THE REFERENCE'S STREETS: its lanes -/
section
variable {N nl nc l : Nat} {nx fr to on : Nat → Nat} {s : hq_S}
theorem hm_lane {bar j : Nat} {both : Bool} {g : Nat → Int32} {q : Int32 → Int32 → hq_S → Option hq_S} (hl : l < 23) (hbo : both = true ↔ hq_gi s 174 49 = 4) (hbr : hq_gi s 198 l = Int32.ofNat bar) (hbar : bar < 2147483648) (h : hl_M nl nc fr to on s) (hj : j < nl) (hg : ∀ c, c < 10 → g c = Int32.ofNat (ly_nx fr to on bar both j c)) : ∃ g', f_X12_lays_L23_B N q (Int32.ofNat l) (Int32.ofNat j) (hq_w s 206 g) = q (Int32.ofNat l) (Int32.ofNat (j + 1)) (hq_w s 206 g') ∧ ∀ c, c < 10 → g' c = Int32.ofNat (ly_nx fr to on bar both (j + 1) c) := by
  obtain ⟨hnc, hnl, h0, h3, hk⟩ := h
  obtain ⟨k1, k2, k3, k4, k5, k6⟩ := hk j hj
  have c : Int32.ofNat j < Int32.ofNat nl := (nn_lt (by omega) (by omega)).mpr (by omega)
  have l1 : ∀ {g : Nat → Int32}, hq_ld (hq_w s 206 g) 176 14 1 = some (Int32.ofNat nl) := fun {g} => by rw [nb_lit 1, hw_ld2 (by omega) (by omega) (by omega), h3]
  have lb : ∀ {g : Nat → Int32}, hq_ld (hq_w s 206 g) 198 23 (Int32.ofNat l) = some (Int32.ofNat bar) := fun {g} => by rw [hw_ld2 (by omega) (by omega) (by omega), hbr]
  have lf : ∀ {g : Nat → Int32}, hq_ld (hq_w s 206 g) 180 40 (Int32.ofNat j) = some (Int32.ofNat (fr j)) := fun {g} => by rw [hw_ld2 (by omega) (by omega) (by omega), k3]
  have lt : ∀ {g : Nat → Int32}, hq_ld (hq_w s 206 g) 181 40 (Int32.ofNat j) = some (Int32.ofNat (to j)) := fun {g} => by rw [hw_ld2 (by omega) (by omega) (by omega), k4]
  have lo : ∀ {g : Nat → Int32}, hq_ld (hq_w s 206 g) 182 40 (Int32.ofNat j) = some (Int32.ofNat (on j)) := fun {g} => by rw [hw_ld2 (by omega) (by omega) (by omega), k6]
  have nf : ∀ {g : Nat → Int32}, hq_ld (hq_w s 206 g) 206 10 (Int32.ofNat (fr j)) = some (g (fr j)) := fun {g} => hw_ld1 (by omega) (by omega)
  have nt : ∀ {g : Nat → Int32}, hq_ld (hq_w s 206 g) 206 10 (Int32.ofNat (to j)) = some (g (to j)) := fun {g} => hw_ld1 (by omega) (by omega)
  have sf : ∀ {g : Nat → Int32} {x : Int32}, hq_st (hq_w s 206 g) 206 10 (Int32.ofNat (fr j)) x = some (hq_w s 206 fun i => if i = fr j then x else g i) := fun {g x} => hw_st (by omega) (by omega)
  have st : ∀ {g : Nat → Int32} {x : Int32}, hq_st (hq_w s 206 g) 206 10 (Int32.ofNat (to j)) x = some (hq_w s 206 fun i => if i = to j then x else g i) := fun {g x} => hw_st (by omega) (by omega)
  have p1 : (1 : Int32) <<< (Int32.ofNat (to j) &&& 31) = Int32.ofNat (2 ^ to j) := nb_one (by omega)
  have p2 : (1 : Int32) <<< (Int32.ofNat (fr j) &&& 31) = Int32.ofNat (2 ^ fr j) := nb_one (by omega)
  have et : ∀ {g : Nat → Int32}, hq_gi (hq_w s 206 g) 174 49 = hq_gi s 174 49 := fun {g} => hw_n (by omega)
  have o0 : (Int32.ofNat (on j) = 0) = (on j = 0) := nb_eq0 (by omega)
  have finB : (¬ (both = false ∧ bar.testBit j = true)) → (both = true ∨ on j = 0) → ∀ c, c < 10 → (fun i => if i = to j then (if to j = fr j then g (fr j) ||| Int32.ofNat (2 ^ to j) else g (to j)) ||| Int32.ofNat (2 ^ fr j) else if i = fr j then g (fr j) ||| Int32.ofNat (2 ^ to j) else g i) c = Int32.ofNat (ly_nx fr to on bar both (j + 1) c) := by
    intro hn hz c hc
    rw [ly_nx, if_neg hn, hg (fr j) (by omega), hg (to j) (by omega)]
    dsimp only
    rw [hg c hc, nb_or]
    by_cases q1 : c = to j
    · rw [if_pos q1, if_pos (show (both = true ∨ on j = 0) ∧ c = to j from ⟨hz, q1⟩)]
      by_cases q2 : to j = fr j
      · rw [if_pos q2, nb_or, if_pos (q1.trans q2), q1, q2]
      · rw [if_neg q2, nb_or, if_neg (fun h => q2 (q1.symm.trans h)), q1, Nat.or_zero]
    · rw [if_neg q1]
      by_cases q2 : c = fr j
      · rw [if_pos q2, if_pos q2, if_neg (fun h => q1 h.2), Nat.or_zero, q2]
      · rw [if_neg q2, if_neg q2, if_neg (fun h => q1 h.2), Nat.or_zero, Nat.or_zero]
  have finF : (¬ (both = false ∧ bar.testBit j = true)) → ¬ (both = true ∨ on j = 0) → ∀ c, c < 10 → (fun i => if i = fr j then g (fr j) ||| Int32.ofNat (2 ^ to j) else g i) c = Int32.ofNat (ly_nx fr to on bar both (j + 1) c) := by
    intro hn hz c hc
    rw [ly_nx, if_neg hn, hg (fr j) (by omega), if_neg (show ¬ ((both = true ∨ on j = 0) ∧ c = to j) from fun h => hz h.1), Nat.or_zero]
    dsimp only
    rw [hg c hc, nb_or]
    by_cases q2 : c = fr j
    · rw [if_pos q2, if_pos q2, q2]
    · rw [if_neg q2, if_neg q2, Nat.or_zero]
  have b1 := nb_bit1 hbar (show j < 32 by omega)
  by_cases hB : hq_gi s 174 49 = 4
  · have hb' := hbo.mpr hB
    have hn : ¬ (both = false ∧ bar.testBit j = true) := by rw [hb']; rintro ⟨h, -⟩; cases h
    refine ⟨_, ?_, finB hn (Or.inl hb')⟩
    by_cases hq : bar.testBit j = true
    · by_cases ho : on j = 0
      · simp only [f_X12_lays_L23_B, l1, lb, lf, lt, lo, nf, nt, sf, st, p1, p2, Option.bind_some, if_pos c, b1, if_pos hq, et, if_pos hB, o0, if_pos ho, nn_succ]
      · simp only [f_X12_lays_L23_B, l1, lb, lf, lt, lo, nf, nt, sf, st, p1, p2, Option.bind_some, if_pos c, b1, if_pos hq, et, if_pos hB, o0, if_neg ho, nn_succ]
    · by_cases ho : on j = 0
      · simp only [f_X12_lays_L23_B, l1, lb, lf, lt, lo, nf, nt, sf, st, p1, p2, Option.bind_some, if_pos c, b1, if_neg hq, et, if_pos hB, o0, if_pos ho, nn_succ]
      · simp only [f_X12_lays_L23_B, l1, lb, lf, lt, lo, nf, nt, sf, st, p1, p2, Option.bind_some, if_pos c, b1, if_neg hq, et, if_pos hB, o0, if_neg ho, nn_succ]
  · have hb' : ¬ both = true := fun h => hB (hbo.mp h)
    have hbf : both = false := by cases both <;> simp_all
    by_cases hq : bar.testBit j = true
    · refine ⟨g, ?_, fun c hc => by rw [ly_nx, if_pos ⟨hbf, hq⟩]; exact hg c hc⟩
      simp only [f_X12_lays_L23_B, l1, lb, Option.bind_some, if_pos c, b1, if_pos hq, et, if_neg hB, nn_succ]
    · have hn : ¬ (both = false ∧ bar.testBit j = true) := fun h => hq h.2
      by_cases ho : on j = 0
      · refine ⟨_, ?_, finB hn (Or.inr ho)⟩
        simp only [f_X12_lays_L23_B, l1, lb, lf, lt, lo, nf, nt, sf, st, p1, p2, Option.bind_some, if_pos c, b1, if_neg hq, o0, if_pos ho, nn_succ]
      · refine ⟨_, ?_, finF hn (by rintro (h | h) <;> contradiction)⟩
        simp only [f_X12_lays_L23_B, l1, lb, lf, lt, lo, nf, nt, sf, st, p1, p2, Option.bind_some, if_pos c, b1, if_neg hq, et, if_neg hB, o0, if_neg ho, nn_succ]
theorem hm_lanes {bar : Nat} {both : Bool} (hl : l < 23) (hbo : both = true ↔ hq_gi s 174 49 = 4) (hbr : hq_gi s 198 l = Int32.ofNat bar) (hbar : bar < 2147483648) (h : hl_M nl nc fr to on s) : ∀ (r j m : Nat) (g : Nat → Int32), j + r = nl → r < m → (∀ c, c < 10 → g c = Int32.ofNat (ly_nx fr to on bar both j c)) → ∃ g', f_X12_lays_L23 N m (Int32.ofNat l) (Int32.ofNat j) (hq_w s 206 g) = f_X12_lays_L127 N N (Int32.ofNat l) 0 (hq_w s 206 g') ∧ ∀ c, c < 10 → g' c = Int32.ofNat (ly_nx fr to on bar both nl c) := by
  intro r
  induction r with
  | zero =>
    intro j m g hj hm hg
    obtain ⟨m, rfl⟩ : ∃ k, m = k + 1 := ⟨m - 1, by omega⟩
    have hj : j = nl := by omega
    subst hj
    have hl' := h.2.1
    have c : ¬ Int32.ofNat j < Int32.ofNat j := by rw [nn_lt (by omega) (by omega)]; omega
    have l1 : hq_ld (hq_w s 206 g) 176 14 1 = some (Int32.ofNat j) := by rw [nb_lit 1, hw_ld2 (by omega) (by omega) (by omega), h.2.2.2.1]
    exact ⟨g, by simp only [f_X12_lays_L23_s, f_X12_lays_L23_B, l1, Option.bind_some, if_neg c], hg⟩
  | succ r ih =>
    intro j m g hj hm hg
    obtain ⟨m, rfl⟩ : ∃ k, m = k + 1 := ⟨m - 1, by omega⟩
    obtain ⟨g', e1, e2⟩ := hm_lane (N := N) (q := f_X12_lays_L23 N m) hl hbo hbr hbar h (show j < nl by omega) hg
    obtain ⟨g2, e3, e4⟩ := ih (j + 1) m g' (by omega) (by omega) e2
    exact ⟨g2, by rw [f_X12_lays_L23_s, e1, e3], e4⟩
theorem hm_clear {a1 : Int32} : ∀ (r j m : Nat) (g : Nat → Int32), j + r = 10 → r < m → f_X12_lays_L2 N m a1 (Int32.ofNat j) (hq_w s 206 g) = f_X12_lays_L23 N N a1 (Int32.ofNat 0) (hq_w s 206 fun i => if j ≤ i ∧ i < 10 then 0 else g i) := by
  intro r
  induction r with
  | zero =>
    intro j m f hj hm
    obtain ⟨m, rfl⟩ : ∃ k, m = k + 1 := ⟨m - 1, by omega⟩
    have hj : j = 10 := by omega
    subst hj
    have c : ¬ Int32.ofNat 10 < (10 : Int32) := by decide
    have es : (hq_w s 206 fun i => if 10 ≤ i ∧ i < 10 then (0 : Int32) else f i) = hq_w s 206 f := hw_cg fun i => if_neg (by omega)
    rw [es]
    simp only [f_X12_lays_L2_s, f_X12_lays_L2_B, if_neg c]
    rfl
  | succ r ih =>
    intro j m f hj hm
    obtain ⟨m, rfl⟩ : ∃ k, m = k + 1 := ⟨m - 1, by omega⟩
    have c : Int32.ofNat j < (10 : Int32) := by rw [nb_lit 10, nn_lt (by omega) (by omega)]; omega
    have s1 : ∀ {x : Int32}, hq_st (hq_w s 206 f) 206 10 (Int32.ofNat j) x = some (hq_w s 206 fun i => if i = j then x else f i) := fun {x} => hw_st (by omega) (by omega)
    simp only [f_X12_lays_L2_s, f_X12_lays_L2_B, if_pos c, s1, Option.bind_some, nn_succ]
    rw [ih (j + 1) m _ (by omega) (by omega)]
    congr 1
    refine hw_cg fun i => ?_
    by_cases q1 : i = j
    · rw [if_neg (by omega), if_pos q1, if_pos (by omega)]
    · rw [if_neg q1]
      by_cases q2 : j + 1 ≤ i ∧ i < 10
      · rw [if_pos q2, if_pos (by omega)]
      · rw [if_neg q2, if_neg (by omega)]
theorem hm_lays {bar : Nat} {both : Bool} (hl : l < 23) (hN : 100 < N) (hbo : both = true ↔ hq_gi s 174 49 = 4) (hbr : hq_gi s 198 l = Int32.ofNat bar) (hbar : bar < 2147483648) (h : hl_M nl nc fr to on s) : ∃ g f, f_X12_lays N (Int32.ofNat l) s = some (hq_w (hq_w s 206 g) 207 f) ∧ (∀ c, c < 10 → g c = Int32.ofNat (ly_nx fr to on bar both nl c)) ∧ ∀ a b, a < nc → b < nc → f (10 * a + b) = Int32.ofNat (bf_far (ly_nx fr to on bar both nl) nc a b) := by
  have hnc := h.1
  have hnl := h.2.1
  have hx := ly_nx_lt (fr := fr) (to := to) (on := on) (bar := bar) (both := both) (nc := nc) (n := nl) fun k hk => ⟨(h.2.2.2.2 k hk).1, (h.2.2.2.2 k hk).2.1⟩
  obtain ⟨g, e1, e2⟩ := hm_lanes (N := N) hl hbo hbr hbar h nl 0 N (fun i => if 0 ≤ i ∧ i < 10 then 0 else hq_gi s 206 i) (by omega) (by omega) (fun c hc => if_pos (by omega))
  have hR : hl_R nc (ly_nx fr to on bar both nl) (hq_w s 206 g) := ⟨by rw [hw_n (by omega), h.2.2.1], fun c hc => by rw [hw_g]; exact e2 c hc⟩
  obtain ⟨f, e3, e4⟩ := hm_all (N := N) (a1 := Int32.ofNat l) hnc (by omega) hx hR nc 0 N (hq_gi (hq_w s 206 g) 207) (by omega) (by omega) (fun a b ha _ => by omega)
  refine ⟨g, f, ?_, e2, e4⟩
  have e5 := hm_clear (N := N) (s := s) (a1 := Int32.ofNat l) 10 0 N (hq_gi s 206) (by omega) (by omega)
  rw [hw_self (fun _ => rfl)] at e5 e3
  unfold f_X12_lays
  rw [nb_0, e5, e1]
  exact e3
end
