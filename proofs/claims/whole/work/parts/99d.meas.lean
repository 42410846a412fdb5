/-! HOW FAR, by the class -/
section
variable {N u nc a : Nat} {nx : Nat → Nat} {s : hq_S}
theorem hb_ring {been e d : Nat} {q41 : Nat → Int32 → Int32 → Int32 → Int32 → Int32 → hq_S → Option hq_S} (hnc : nc ≤ 10) (ha : a < nc) (hN : 10 < N) (he : e < 2147483648) (h : hl_S u nc nx s) : ∀ (r j m : Nat) (f : Nat → Int32), j + r = nc → r < m →
    f_X8_measureFrom_L56 N q41 m u (Int32.ofNat a) (Int32.ofNat (10 * a)) (Int32.ofNat been) (Int32.ofNat e) (Int32.ofNat d) (Int32.ofNat j) (hq_w s (u + 2) f) = q41 u (Int32.ofNat a) (Int32.ofNat (10 * a)) (Int32.ofNat (been ||| e)) (Int32.ofNat (nb_df (bf_any nx e nc) (been ||| e))) (Int32.ofNat (d + 1)) (hq_w s (u + 2) fun i => if 10 * a + j ≤ i ∧ i < 10 * a + nc ∧ e.testBit (i - 10 * a) = true then Int32.ofNat d else f i) := by
  intro r
  induction r with
  | zero =>
    intro j m f hj hm
    obtain ⟨m, rfl⟩ : ∃ k, m = k + 1 := ⟨m - 1, by omega⟩
    have hj : j = nc := by omega
    subst hj
    have c : ¬ Int32.ofNat j < Int32.ofNat j := by rw [nn_lt (by omega) (by omega)]; omega
    have h' : hl_S u j nx (hq_w s (u + 2) f) := hl_S_w h (by omega) (by omega)
    have es : (hq_w s (u + 2) fun i => if 10 * a + j ≤ i ∧ i < 10 * a + j ∧ e.testBit (i - 10 * a) = true then Int32.ofNat d else f i) = hq_w s (u + 2) f := hw_cg fun i => if_neg (by omega)
    rw [es]
    simp only [f_X8_measureFrom_L56_s, f_X8_measureFrom_L56_B, h'.1, if_neg c, hb_any hN hnc he h', Option.bind_some, nb_or, nb_not, nn_succ]
  | succ r ih =>
    intro j m f hj hm
    obtain ⟨m, rfl⟩ : ∃ k, m = k + 1 := ⟨m - 1, by omega⟩
    have c : Int32.ofNat j < Int32.ofNat nc := (nn_lt (by omega) (by omega)).mpr (by omega)
    have h' : hl_S u nc nx (hq_w s (u + 2) f) := hl_S_w h (by omega) (by omega)
    have l1 : hq_ld (hq_w s (u + 2) f) (u + 2) 100 (Int32.ofNat (10 * a + j)) = some (f (10 * a + j)) := hw_ld1 (by omega) (by omega)
    have s1 : ∀ {x : Int32}, hq_st (hq_w s (u + 2) f) (u + 2) 100 (Int32.ofNat (10 * a + j)) x = some (hq_w s (u + 2) fun i => if i = 10 * a + j then x else f i) := fun {x} => hw_st (by omega) (by omega)
    by_cases q : e.testBit j = true
    · simp only [f_X8_measureFrom_L56_s, f_X8_measureFrom_L56_B, h'.1, if_pos c, nb_bit1 he (show j < 32 by omega), if_pos q, nb_add, s1, Option.bind_some, nn_succ]
      rw [ih (j + 1) m _ (by omega) (by omega)]
      congr 1
      refine hw_cg fun i => ?_
      by_cases q1 : i = 10 * a + j
      · rw [if_neg (by omega), if_pos q1, if_pos ⟨by omega, by omega, by rw [q1, Nat.add_sub_cancel_left]; exact q⟩]
      · rw [if_neg q1]
        by_cases q2 : 10 * a + (j + 1) ≤ i ∧ i < 10 * a + nc ∧ e.testBit (i - 10 * a) = true
        · rw [if_pos q2, if_pos ⟨by omega, q2.2⟩]
        · rw [if_neg q2, if_neg (fun q3 => q2 ⟨by omega, q3.2⟩)]
    · simp only [f_X8_measureFrom_L56_s, f_X8_measureFrom_L56_B, h'.1, if_pos c, nb_bit1 he (show j < 32 by omega), if_neg q, nb_add, l1, s1, Option.bind_some, nn_succ]
      rw [ih (j + 1) m _ (by omega) (by omega)]
      congr 1
      refine hw_cg fun i => ?_
      by_cases q1 : i = 10 * a + j
      · rw [if_neg (by omega), if_pos q1, if_neg (by rintro ⟨-, -, q3⟩; rw [q1, Nat.add_sub_cancel_left] at q3; exact q q3), q1]
      · rw [if_neg q1]
        by_cases q2 : 10 * a + (j + 1) ≤ i ∧ i < 10 * a + nc ∧ e.testBit (i - 10 * a) = true
        · rw [if_pos q2, if_pos ⟨by omega, q2.2⟩]
        · rw [if_neg q2, if_neg (fun q3 => q2 ⟨by omega, q3.2⟩)]
theorem hb_meas (hnc : nc ≤ 10) (ha : a < nc) (hN : 10 < N) (hx : ∀ c, nx c < 2 ^ nc) (h : hl_S u nc nx s) : ∀ (g been e d m : Nat) (row : Nat → Nat) (f : Nat → Int32), d + g = 10 → g < m → been < 2 ^ nc → e < 2 ^ nc → (∀ c, c < nc → f (10 * a + c) = Int32.ofNat (row c)) →
    ∃ f', f_X8_measureFrom_L41 N m u (Int32.ofNat a) (Int32.ofNat (10 * a)) (Int32.ofNat been) (Int32.ofNat e) (Int32.ofNat d) (hq_w s (u + 2) f) = some (hq_w s (u + 2) f') ∧ (∀ c, c < nc → f' (10 * a + c) = Int32.ofNat (bf_go nx nc g been e d row c)) ∧ ∀ i, (i < 10 * a ∨ 10 * a + nc ≤ i) → f' i = f i := by
  intro g
  induction g with
  | zero =>
    intro been e d m row f hd hm hb he hf
    obtain ⟨m, rfl⟩ : ∃ k, m = k + 1 := ⟨m - 1, by omega⟩
    have c : ¬ Int32.ofNat d < (10 : Int32) := by rw [nb_lit 10, nn_lt (by omega) (by omega)]; omega
    exact ⟨f, by simp only [f_X8_measureFrom_L41_s, f_X8_measureFrom_L41_B, if_neg c], hf, fun i _ => rfl⟩
  | succ g ih =>
    intro been e d m row f hd hm hb he hf
    obtain ⟨m, rfl⟩ : ∃ k, m = k + 1 := ⟨m - 1, by omega⟩
    have c : Int32.ofNat d < (10 : Int32) := by rw [nb_lit 10, nn_lt (by omega) (by omega)]; omega
    have e1 := nb_1024 hnc he
    by_cases q : e = 0
    · refine ⟨f, ?_, fun c hc => ?_, fun i _ => rfl⟩
      · simp only [f_X8_measureFrom_L41_s, f_X8_measureFrom_L41_B, if_pos c, q]
        rfl
      · rw [bf_go, if_pos q]
        exact hf c hc
    · have c2 : ¬ Int32.ofNat e = 0 := by rw [nb_eq0 (by omega)]; exact q
      obtain ⟨f', i1, i2, i3⟩ := ih (been ||| e) (nb_df (bf_any nx e nc) (been ||| e)) (d + 1) m (fun c => if e.testBit c = true then d else row c) (fun i => if 10 * a + 0 ≤ i ∧ i < 10 * a + nc ∧ e.testBit (i - 10 * a) = true then Int32.ofNat d else f i) (by omega) (by omega) (nb_lt_or hb he) (nb_df_lt (bf_any_lt hx nc)) (fun c hc => by
        have q1 : 10 * a + c - 10 * a = c := by omega
        show (if 10 * a + 0 ≤ 10 * a + c ∧ 10 * a + c < 10 * a + nc ∧ e.testBit (10 * a + c - 10 * a) = true then Int32.ofNat d else f (10 * a + c)) = Int32.ofNat (if e.testBit c = true then d else row c)
        rw [q1]
        by_cases q2 : e.testBit c = true
        · rw [if_pos ⟨by omega, by omega, q2⟩, if_pos q2]
        · rw [if_neg (fun q3 => q2 q3.2.2), if_neg q2]
          exact hf c hc)
      refine ⟨f', ?_, fun c hc => ?_, fun i hi => ?_⟩
      · rw [f_X8_measureFrom_L41_s]
        unfold f_X8_measureFrom_L41_B
        rw [if_pos c, if_neg c2, nb_0, hb_ring hnc ha hN (by omega) h nc 0 N f (by omega) (by omega)]
        exact i1
      · rw [bf_go, if_neg q]
        exact i2 c hc
      · rw [i3 i hi]
        exact if_neg (by omega)
theorem hb_measF (hnc : nc ≤ 10) (ha : a < nc) (h : hl_S u nc nx s) : ∀ (r j m : Nat) (f : Nat → Int32), j + r = nc → r < m → f_X8_measureFrom_L7 N m u (Int32.ofNat a) (Int32.ofNat (10 * a)) (Int32.ofNat j) (hq_w s (u + 2) f) = f_X8_measureFrom_L41 N N u (Int32.ofNat a) (Int32.ofNat (10 * a)) (Int32.ofNat 0) (Int32.ofNat (2 ^ a)) (Int32.ofNat 0) (hq_w s (u + 2) fun i => if 10 * a + j ≤ i ∧ i < 10 * a + nc then (99 : Int32) else f i) := by
  intro r
  induction r with
  | zero =>
    intro j m f hj hm
    obtain ⟨m, rfl⟩ : ∃ k, m = k + 1 := ⟨m - 1, by omega⟩
    have hj : j = nc := by omega
    subst hj
    have c : ¬ Int32.ofNat j < Int32.ofNat j := by rw [nn_lt (by omega) (by omega)]; omega
    have h' : hl_S u j nx (hq_w s (u + 2) f) := hl_S_w h (by omega) (by omega)
    have es : (hq_w s (u + 2) fun i => if 10 * a + j ≤ i ∧ i < 10 * a + j then (99 : Int32) else f i) = hq_w s (u + 2) f := hw_cg fun i => if_neg (by omega)
    rw [es]
    simp only [f_X8_measureFrom_L7_s, f_X8_measureFrom_L7_B, h'.1, if_neg c, nb_one (show a < 32 by omega)]
    rfl
  | succ r ih =>
    intro j m f hj hm
    obtain ⟨m, rfl⟩ : ∃ k, m = k + 1 := ⟨m - 1, by omega⟩
    have c : Int32.ofNat j < Int32.ofNat nc := (nn_lt (by omega) (by omega)).mpr (by omega)
    have h' : hl_S u nc nx (hq_w s (u + 2) f) := hl_S_w h (by omega) (by omega)
    have s1 : ∀ {x : Int32}, hq_st (hq_w s (u + 2) f) (u + 2) 100 (Int32.ofNat (10 * a + j)) x = some (hq_w s (u + 2) fun i => if i = 10 * a + j then x else f i) := fun {x} => hw_st (by omega) (by omega)
    simp only [f_X8_measureFrom_L7_s, f_X8_measureFrom_L7_B, h'.1, if_pos c, nb_add, s1, Option.bind_some, nn_succ]
    rw [ih (j + 1) m _ (by omega) (by omega)]
    congr 1
    refine hw_cg fun i => ?_
    by_cases q1 : i = 10 * a + j
    · rw [if_neg (by omega), if_pos q1, if_pos (by omega)]
    · rw [if_neg q1]
      by_cases q2 : 10 * a + (j + 1) ≤ i ∧ i < 10 * a + nc
      · rw [if_pos q2, if_pos (by omega)]
      · rw [if_neg q2, if_neg (by omega)]
theorem hb_from (hnc : nc ≤ 10) (ha : a < nc) (hN : 10 < N) (hx : ∀ c, nx c < 2 ^ nc) (h : hl_S u nc nx s) (f : Nat → Int32) : ∃ f', f_X8_measureFrom N u (Int32.ofNat a) (hq_w s (u + 2) f) = some (hq_w s (u + 2) f') ∧ (∀ c, c < nc → f' (10 * a + c) = Int32.ofNat (bf_far nx nc a c)) ∧ ∀ i, (i < 10 * a ∨ 10 * a + nc ≤ i) → f' i = f i := by
  obtain ⟨f', e1, e2, e3⟩ := hb_meas hnc ha hN hx h 10 0 (2 ^ a) 0 N (fun _ => 99) (fun i => if 10 * a + 0 ≤ i ∧ i < 10 * a + nc then (99 : Int32) else f i) (by omega) (by omega) (Nat.two_pow_pos nc) (nb_2lt ha) (fun c hc => if_pos (by omega))
  refine ⟨f', ?_, e2, fun i hi => ?_⟩
  · unfold f_X8_measureFrom
    rw [nb_10m, nb_0, hb_measF hnc ha h nc 0 N f (by omega) (by omega)]
    exact e1
  · rw [e3 i hi]
    exact if_neg (by omega)
end
section
variable {N u nc t : Nat} {nx : Nat → Nat} {s : hq_S}
theorem hb_all {a2 a3 : Int32} (hnc : nc ≤ 10) (hN : 10 < N) (hx : ∀ c, nx c < 2 ^ nc) (h : hl_S u nc nx s) : ∀ (r j m : Nat) (f : Nat → Int32), j + r = nc → r < m → (∀ a b, a < j → b < nc → f (10 * a + b) = Int32.ofNat (bf_far nx nc a b)) → ∃ f', f_X8_build_L127 N m u t a2 a3 (Int32.ofNat j) (hq_w s (u + 2) f) = some (hq_w s (u + 2) f') ∧ ∀ a b, a < nc → b < nc → f' (10 * a + b) = Int32.ofNat (bf_far nx nc a b) := by
  intro r
  induction r with
  | zero =>
    intro j m f hj hm hf
    obtain ⟨m, rfl⟩ : ∃ k, m = k + 1 := ⟨m - 1, by omega⟩
    have hj : j = nc := by omega
    subst hj
    have c : ¬ Int32.ofNat j < Int32.ofNat j := by rw [nn_lt (by omega) (by omega)]; omega
    have h' : hl_S u j nx (hq_w s (u + 2) f) := hl_S_w h (by omega) (by omega)
    exact ⟨f, by simp only [f_X8_build_L127_s, f_X8_build_L127_B, h'.1, if_neg c], hf⟩
  | succ r ih =>
    intro j m f hj hm hf
    obtain ⟨m, rfl⟩ : ∃ k, m = k + 1 := ⟨m - 1, by omega⟩
    have c : Int32.ofNat j < Int32.ofNat nc := (nn_lt (by omega) (by omega)).mpr (by omega)
    have h' : hl_S u nc nx (hq_w s (u + 2) f) := hl_S_w h (by omega) (by omega)
    obtain ⟨f1, e1, e2, e3⟩ := hb_from (N := N) (a := j) hnc (by omega) hN hx h f
    obtain ⟨f2, e4, e5⟩ := ih (j + 1) m f1 (by omega) (by omega) (fun a b ha hb => by
      by_cases q : a = j
      · rw [q]; exact e2 b hb
      · rw [e3 _ (by omega)]
        exact hf a b (by omega) hb)
    exact ⟨f2, by simp only [f_X8_build_L127_s, f_X8_build_L127_B, h'.1, if_pos c, e1, Option.bind_some, nn_succ, e4], e5⟩
theorem hb_build {nl bar : Nat} {fr to on : Nat → Nat} {both : Bool} {a3 : Int32} (hu : u = 103 ∨ u = 108) (ht : t = 2 ∨ t = 25) (hN : 100 < N) (hb : a3 = if both = true then 1 else 0) (hbar : bar < 2147483648) (h : hl_X t nl nc fr to on s) : ∃ g f, f_X8_build N u t (Int32.ofNat bar) a3 s = some (hq_w (hq_w (hq_si s u 0 (Int32.ofNat nc)) (u + 1) g) (u + 2) f) ∧ (∀ c, c < 10 → g c = Int32.ofNat (ly_nx fr to on bar both nl c)) ∧ ∀ a b, a < nc → b < nc → f (10 * a + b) = Int32.ofNat (bf_far (ly_nx fr to on bar both nl) nc a b) := by
  have hnc := h.1
  have hnl := h.2.1
  have al : hq_alI (u + 1) = some 10 ∧ hq_alA (u + 1) = some (Int32.ofNat 10) := by rcases hu with rfl | rfl <;> exact ⟨rfl, rfl⟩
  have h1 : hl_X t nl nc fr to on (hq_si s u 0 (Int32.ofNat nc)) := by
    rw [hw_si]
    exact hl_X_w h (by omega) (by omega) (by omega)
  obtain ⟨g, e1, e2⟩ := hb_lanes (N := N) hu ht hb hbar h1 nl 0 N (fun i => if i < 10 then 0 else hq_gi (hq_si s u 0 (Int32.ofNat nc)) (u + 1) i) (by omega) (by omega) (fun c hc => if_pos hc)
  have hx := ly_nx_lt (fr := fr) (to := to) (on := on) (bar := bar) (both := both) (nc := nc) (n := nl) fun k hk => ⟨(h.2.2.2.2 k hk).1, (h.2.2.2.2 k hk).2.1⟩
  have hS : hl_S u nc (ly_nx fr to on bar both nl) (hq_w (hq_si s u 0 (Int32.ofNat nc)) (u + 1) g) := ⟨by rw [hw_n (by omega), nb_ii, if_pos ⟨rfl, rfl⟩], fun c hc => by rw [hw_g]; exact e2 c hc⟩
  obtain ⟨f, e3, e4⟩ := hb_all (N := N) (t := t) (a2 := Int32.ofNat bar) (a3 := a3) hnc (by omega) hx hS nc 0 N (hq_gi (hq_w (hq_si s u 0 (Int32.ofNat nc)) (u + 1) g) (u + 2)) (by omega) (by omega) (fun a b ha _ => by omega)
  refine ⟨g, f, ?_, e2, e4⟩
  unfold f_X8_build
  rw [h.2.2.1, nn_pi, Option.bind_some, nb_fill al.1 al.2 (by omega) (by omega), Option.bind_some]
  rw [hw_self (fun _ => rfl)] at e3
  rw [← e3]
  exact e1
end
