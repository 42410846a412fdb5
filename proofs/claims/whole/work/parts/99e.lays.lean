/-! THE REFERENCE'S STREETS -/
def hl_M (nl nc : Nat) (fr to on : Nat → Nat) (s : hq_S) : Prop := nc ≤ 10 ∧ nl ≤ 20 ∧ hq_gi s 176 0 = Int32.ofNat nc ∧ hq_gi s 176 1 = Int32.ofNat nl ∧ ∀ k, k < nl → fr k < nc ∧ to k < nc ∧ hq_gi s 180 k = Int32.ofNat (fr k) ∧ hq_gi s 181 k = Int32.ofNat (to k) ∧ on k ≤ 1 ∧ hq_gi s 182 k = Int32.ofNat (on k)
def hl_R (nc : Nat) (nx : Nat → Nat) (s : hq_S) : Prop := hq_gi s 176 0 = Int32.ofNat nc ∧ ∀ c, c < 10 → hq_gi s 206 c = Int32.ofNat (nx c)
theorem hl_M_w {nl nc k : Nat} {fr to on : Nat → Nat} {s : hq_S} {g : Nat → Int32} (h : hl_M nl nc fr to on s) (hk : 183 ≤ k) : hl_M nl nc fr to on (hq_w s k g) := by
  unfold hl_M at h ⊢
  simp only [hw_n (show ¬ 176 = k by omega), hw_n (show ¬ 180 = k by omega), hw_n (show ¬ 181 = k by omega), hw_n (show ¬ 182 = k by omega)]
  exact h
theorem hl_R_w {nc k : Nat} {nx : Nat → Nat} {s : hq_S} {g : Nat → Int32} (h : hl_R nc nx s) (hk : 207 ≤ k) : hl_R nc nx (hq_w s k g) := by
  unfold hl_R at h ⊢
  simp only [hw_n (show ¬ 176 = k by omega), hw_n (show ¬ 206 = k by omega)]
  exact h
section
variable {N nc a : Nat} {nx : Nat → Nat} {s : hq_S}
theorem hm_l0 (hnc : nc ≤ 10) (h : hl_R nc nx s) {f : Nat → Int32} : hq_ld (hq_w s 207 f) 176 14 0 = some (Int32.ofNat nc) := by
  rw [nb_0, hw_ld2 (by omega) (by omega) (by omega), h.1]
theorem hm_ring {be e d : Nat} {q39 : Int32 → Int32 → Int32 → Int32 → hq_S → Option hq_S} (hnc : nc ≤ 10) (ha : a < nc) (he : e < 2147483648) (h : hl_R nc nx s) : ∀ (r j m : Nat) (f : Nat → Int32), j + r = nc → r < m →
    f_X12_laysFrom_L53 N q39 m (Int32.ofNat a) (Int32.ofNat be) (Int32.ofNat e) (Int32.ofNat d) (Int32.ofNat (bf_any nx e j)) (Int32.ofNat j) (hq_w s 207 f) = q39 (Int32.ofNat a) (Int32.ofNat be) (Int32.ofNat (nb_df (bf_any nx e nc) be)) (Int32.ofNat (d + 1)) (hq_w s 207 fun i => if 10 * a + j ≤ i ∧ i < 10 * a + nc ∧ e.testBit (i - 10 * a) = true then Int32.ofNat d else f i) := by
  intro r
  induction r with
  | zero =>
    intro j m f hj hm
    obtain ⟨m, rfl⟩ : ∃ k, m = k + 1 := ⟨m - 1, by omega⟩
    have hj : j = nc := by omega
    subst hj
    have c : ¬ Int32.ofNat j < Int32.ofNat j := by rw [nn_lt (by omega) (by omega)]; omega
    have es : (hq_w s 207 fun i => if 10 * a + j ≤ i ∧ i < 10 * a + j ∧ e.testBit (i - 10 * a) = true then Int32.ofNat d else f i) = hq_w s 207 f := hw_cg fun i => if_neg (by omega)
    rw [es]
    simp only [f_X12_laysFrom_L53_s, f_X12_laysFrom_L53_B, hm_l0 hnc h, Option.bind_some, if_neg c, nb_not, nn_succ]
  | succ r ih =>
    intro j m f hj hm
    obtain ⟨m, rfl⟩ : ∃ k, m = k + 1 := ⟨m - 1, by omega⟩
    have c : Int32.ofNat j < Int32.ofNat nc := (nn_lt (by omega) (by omega)).mpr (by omega)
    have s1 : ∀ {x : Int32}, hq_st (hq_w s 207 f) 207 100 (Int32.ofNat (10 * a + j)) x = some (hq_w s 207 fun i => if i = 10 * a + j then x else f i) := fun {x} => hw_st (by omega) (by omega)
    have l1 : ∀ {f : Nat → Int32}, hq_ld (hq_w s 207 f) 206 10 (Int32.ofNat j) = some (Int32.ofNat (nx j)) := fun {f} => by rw [hw_ld2 (by omega) (by omega) (by omega), h.2 j (by omega)]
    by_cases q : e.testBit j = true
    · have ih := ih (j + 1) m (fun i => if i = 10 * a + j then Int32.ofNat d else f i) (by omega) (by omega)
      rw [bf_any, if_pos q] at ih
      have q' : ¬ e.testBit j = false := by rw [q]; decide
      simp only [f_X12_laysFrom_L53_s, f_X12_laysFrom_L53_B, hm_l0 hnc h, Option.bind_some, if_pos c, nb_bit0 he (show j < 32 by omega), if_neg q', nb_m10, nb_add, s1, l1, nb_or, nn_succ]
      rw [ih]
      congr 1
      refine hw_cg fun i => ?_
      by_cases q1 : i = 10 * a + j
      · rw [if_neg (by omega), if_pos q1, if_pos ⟨by omega, by omega, by rw [q1, Nat.add_sub_cancel_left]; exact q⟩]
      · rw [if_neg q1]
        by_cases q2 : 10 * a + (j + 1) ≤ i ∧ i < 10 * a + nc ∧ e.testBit (i - 10 * a) = true
        · rw [if_pos q2, if_pos ⟨by omega, q2.2⟩]
        · rw [if_neg q2, if_neg (fun q3 => q2 ⟨by omega, q3.2⟩)]
    · have ih := ih (j + 1) m f (by omega) (by omega)
      rw [bf_any, if_neg q, Nat.or_zero] at ih
      have q' : e.testBit j = false := by cases h : e.testBit j <;> simp_all
      simp only [f_X12_laysFrom_L53_s, f_X12_laysFrom_L53_B, hm_l0 hnc h, Option.bind_some, if_pos c, nb_bit0 he (show j < 32 by omega), if_pos q', nn_succ]
      rw [ih]
      congr 1
      refine hw_cg fun i => ?_
      by_cases q2 : 10 * a + (j + 1) ≤ i ∧ i < 10 * a + nc ∧ e.testBit (i - 10 * a) = true
      · rw [if_pos q2, if_pos ⟨by omega, q2.2⟩]
      · rw [if_neg q2, if_neg (fun q3 => ?_)]
        by_cases q1 : i = 10 * a + j
        · have q4 := q3.2.2
          rw [q1, Nat.add_sub_cancel_left] at q4
          exact q q4
        · exact q2 ⟨by omega, q3.2⟩
theorem hm_meas (hnc : nc ≤ 10) (ha : a < nc) (hN : 10 < N) (hx : ∀ c, nx c < 2 ^ nc) (h : hl_R nc nx s) : ∀ (g been e d m : Nat) (row : Nat → Nat) (f : Nat → Int32), nb_cnt been nc ≤ g → g < m → been < 2 ^ nc → e < 2 ^ nc → (∀ i, e.testBit i = true → been.testBit i = false) → (∀ c, c < nc → f (10 * a + c) = Int32.ofNat (row c)) →
    ∃ f', f_X12_laysFrom_L39 N m (Int32.ofNat a) (Int32.ofNat been) (Int32.ofNat e) (Int32.ofNat d) (hq_w s 207 f) = some (hq_w s 207 f') ∧ (∀ c, c < nc → f' (10 * a + c) = Int32.ofNat (bf_go nx nc g been e d row c)) ∧ ∀ i, (i < 10 * a ∨ 10 * a + nc ≤ i) → f' i = f i := by
  intro g
  induction g with
  | zero =>
    intro been e d m row f hg hm hb he hd hf
    obtain ⟨m, rfl⟩ : ∃ k, m = k + 1 := ⟨m - 1, by omega⟩
    have q : e = 0 := by
      by_cases q : e = 0
      · exact q
      · obtain ⟨i, hi⟩ := nb_ne0 q
        have h1 := nb_cnt_0 (Nat.le_zero.mp hg) i (nb_tlt he hi)
        rw [hd i hi] at h1
        cases h1
    refine ⟨f, ?_, hf, fun i _ => rfl⟩
    simp only [f_X12_laysFrom_L39_s, f_X12_laysFrom_L39_B, q]
    rfl
  | succ g ih =>
    intro been e d m row f hg hm hb he hd hf
    obtain ⟨m, rfl⟩ : ∃ k, m = k + 1 := ⟨m - 1, by omega⟩
    have e1 := nb_1024 hnc he
    by_cases q : e = 0
    · refine ⟨f, ?_, fun c hc => ?_, fun i _ => rfl⟩
      · simp only [f_X12_laysFrom_L39_s, f_X12_laysFrom_L39_B, q]
        rfl
      · rw [bf_go, if_pos q]
        exact hf c hc
    · have c2 : ¬ Int32.ofNat e = 0 := by rw [nb_eq0 (by omega)]; exact q
      obtain ⟨i0, hi0⟩ := nb_ne0 q
      have hlt := nb_cnt_lt hi0 (hd i0 hi0) nc (nb_tlt he hi0)
      obtain ⟨f', i1, i2, i3⟩ := ih (been ||| e) (nb_df (bf_any nx e nc) (been ||| e)) (d + 1) m (fun c => if e.testBit c = true then d else row c) (fun i => if 10 * a + 0 ≤ i ∧ i < 10 * a + nc ∧ e.testBit (i - 10 * a) = true then Int32.ofNat d else f i) (by omega) (by omega) (nb_lt_or hb he) (nb_df_lt (bf_any_lt hx nc)) (fun i hi => by
          rw [nb_df_t] at hi
          cases hq : (been ||| e).testBit i with
          | false => rfl
          | true => rw [hq, Bool.not_true, Bool.and_false] at hi; cases hi) (fun c hc => by
        have q1 : 10 * a + c - 10 * a = c := by omega
        show (if 10 * a + 0 ≤ 10 * a + c ∧ 10 * a + c < 10 * a + nc ∧ e.testBit (10 * a + c - 10 * a) = true then Int32.ofNat d else f (10 * a + c)) = Int32.ofNat (if e.testBit c = true then d else row c)
        rw [q1]
        by_cases q2 : e.testBit c = true
        · rw [if_pos ⟨by omega, by omega, q2⟩, if_pos q2]
        · rw [if_neg (fun q3 => q2 q3.2.2), if_neg q2]
          exact hf c hc)
      refine ⟨f', ?_, fun c hc => ?_, fun i hi => ?_⟩
      · rw [f_X12_laysFrom_L39_s]
        unfold f_X12_laysFrom_L39_B
        rw [if_neg c2, nb_or, nb_0]
        have := hm_ring (N := N) (be := been ||| e) (e := e) (d := d) (q39 := f_X12_laysFrom_L39 N m) hnc ha (by omega) h nc 0 N f (by omega) (by omega)
        rw [bf_any] at this
        rw [this]
        exact i1
      · rw [bf_go, if_neg q]
        exact i2 c hc
      · rw [i3 i hi]
        exact if_neg (by omega)
theorem hm_measF {a2 a3 : Int32} (ha : a < 10) : ∀ (r j m : Nat) (f : Nat → Int32), j + r = 10 → r < m → f_X12_laysFrom_L9 N m (Int32.ofNat a) a2 a3 (Int32.ofNat j) (hq_w s 207 f) = f_X12_laysFrom_L39 N N (Int32.ofNat a) a2 a3 (Int32.ofNat 0) (hq_w s 207 fun i => if 10 * a + j ≤ i ∧ i < 10 * a + 10 then (99 : Int32) else f i) := by
  intro r
  induction r with
  | zero =>
    intro j m f hj hm
    obtain ⟨m, rfl⟩ : ∃ k, m = k + 1 := ⟨m - 1, by omega⟩
    have hj : j = 10 := by omega
    subst hj
    have c : ¬ Int32.ofNat 10 < (10 : Int32) := by decide
    have es : (hq_w s 207 fun i => if 10 * a + 10 ≤ i ∧ i < 10 * a + 10 then (99 : Int32) else f i) = hq_w s 207 f := hw_cg fun i => if_neg (by omega)
    rw [es]
    simp only [f_X12_laysFrom_L9_s, f_X12_laysFrom_L9_B, if_neg c]
    rfl
  | succ r ih =>
    intro j m f hj hm
    obtain ⟨m, rfl⟩ : ∃ k, m = k + 1 := ⟨m - 1, by omega⟩
    have c : Int32.ofNat j < (10 : Int32) := by rw [nb_lit 10, nn_lt (by omega) (by omega)]; omega
    have s1 : ∀ {x : Int32}, hq_st (hq_w s 207 f) 207 100 (Int32.ofNat (10 * a + j)) x = some (hq_w s 207 fun i => if i = 10 * a + j then x else f i) := fun {x} => hw_st (by omega) (by omega)
    simp only [f_X12_laysFrom_L9_s, f_X12_laysFrom_L9_B, if_pos c, nb_m10, nb_add, s1, Option.bind_some, nn_succ]
    rw [ih (j + 1) m _ (by omega) (by omega)]
    congr 1
    refine hw_cg fun i => ?_
    by_cases q1 : i = 10 * a + j
    · rw [if_neg (by omega), if_pos q1, if_pos (by omega)]
    · rw [if_neg q1]
      by_cases q2 : 10 * a + (j + 1) ≤ i ∧ i < 10 * a + 10
      · rw [if_pos q2, if_pos (by omega)]
      · rw [if_neg q2, if_neg (by omega)]
theorem hm_from (hnc : nc ≤ 10) (ha : a < nc) (hN : 10 < N) (hx : ∀ c, nx c < 2 ^ nc) (h : hl_R nc nx s) (f : Nat → Int32) : ∃ f', f_X12_laysFrom N (Int32.ofNat a) (hq_w s 207 f) = some (hq_w s 207 f') ∧ (∀ c, c < nc → f' (10 * a + c) = Int32.ofNat (bf_far nx nc a c)) ∧ ∀ i, (i < 10 * a ∨ 10 * a + 10 ≤ i) → f' i = f i := by
  have z0 : nb_cnt 0 nc ≤ 10 := Nat.le_trans (nb_cnt_le 0 nc) hnc
  obtain ⟨f', e1, e2, e3⟩ := hm_meas hnc ha hN hx h 10 0 (2 ^ a) 0 N (fun _ => 99) (fun i => if 10 * a + 0 ≤ i ∧ i < 10 * a + 10 then (99 : Int32) else f i) z0 (by omega) (Nat.two_pow_pos nc) (nb_2lt ha) (fun i _ => Nat.zero_testBit i) (fun c hc => if_pos (by omega))
  refine ⟨f', ?_, e2, fun i hi => ?_⟩
  · unfold f_X12_laysFrom
    rw [nb_one (by omega), nb_0, hm_measF (by omega) 10 0 N f (by omega) (by omega)]
    exact e1
  · rw [e3 i (by omega)]
    exact if_neg (by omega)
theorem hm_all {a1 : Int32} (hnc : nc ≤ 10) (hN : 10 < N) (hx : ∀ c, nx c < 2 ^ nc) (h : hl_R nc nx s) : ∀ (r j m : Nat) (f : Nat → Int32), j + r = nc → r < m → (∀ a b, a < j → b < nc → f (10 * a + b) = Int32.ofNat (bf_far nx nc a b)) → ∃ f', f_X12_lays_L127 N m a1 (Int32.ofNat j) (hq_w s 207 f) = some (hq_w s 207 f') ∧ ∀ a b, a < nc → b < nc → f' (10 * a + b) = Int32.ofNat (bf_far nx nc a b) := by
  intro r
  induction r with
  | zero =>
    intro j m f hj hm hf
    obtain ⟨m, rfl⟩ : ∃ k, m = k + 1 := ⟨m - 1, by omega⟩
    have hj : j = nc := by omega
    subst hj
    have c : ¬ Int32.ofNat j < Int32.ofNat j := by rw [nn_lt (by omega) (by omega)]; omega
    exact ⟨f, by simp only [f_X12_lays_L127_s, f_X12_lays_L127_B, hm_l0 hnc h, Option.bind_some, if_neg c], hf⟩
  | succ r ih =>
    intro j m f hj hm hf
    obtain ⟨m, rfl⟩ : ∃ k, m = k + 1 := ⟨m - 1, by omega⟩
    have c : Int32.ofNat j < Int32.ofNat nc := (nn_lt (by omega) (by omega)).mpr (by omega)
    obtain ⟨f1, e1, e2, e3⟩ := hm_from (N := N) (a := j) hnc (by omega) hN hx h f
    obtain ⟨f2, e4, e5⟩ := ih (j + 1) m f1 (by omega) (by omega) (fun a b ha hb => by
      by_cases q : a = j
      · rw [q]; exact e2 b hb
      · rw [e3 _ (by omega)]
        exact hf a b (by omega) hb)
    exact ⟨f2, by simp only [f_X12_lays_L127_s, f_X12_lays_L127_B, hm_l0 hnc h, if_pos c, e1, Option.bind_some, nn_succ, e4], e5⟩
end
