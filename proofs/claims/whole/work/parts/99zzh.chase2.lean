/-! THE CLASS'S CHASE -/
/-- an array of sets of corners, M rows of them -/
def cb (M n : Nat) (s : hq_S) (k : Nat) (Q : Nat → Nat → Prop) : Prop := ∀ r, r < M → ∃ x, x < 2 ^ n ∧ hq_gi s k r = Int32.ofNat x ∧ ∀ c, c < n → (x.testBit c = true ↔ Q r c)
def cx_F (n g : Nat) (tn : Nat → Nat) (s : hq_S) : Prop := hq_gi s 152 0 = Int32.ofNat n ∧ hq_gi s 152 2 = Int32.ofNat g ∧ hq_gi s 152 3 = Int32.ofNat (n ^ g) ∧ ∀ c, c < 10 → hq_gi s 153 c = Int32.ofNat (tn c)
/-- in how many rounds, by round k -/
def rv (n g : Nat) (tn : Nat → Nat) (k r c : Nat) (x : Int32) : Prop := (∃ j, j ≤ k ∧ cE n g tn j (dgs n g r) c ∧ x = Int32.ofNat j) ∨ (x = 2147483647 ∧ ¬ cL n g tn k (dgs n g r) c)
section
variable {N n g : Nat} {tn : Nat → Nat}
theorem cb_cg {M : Nat} {s s' : hq_S} {k : Nat} {Q Q' : Nat → Nat → Prop} (e : ∀ r, r < M → hq_gi s' k r = hq_gi s k r) (q : ∀ r c, r < M → c < n → (Q r c ↔ Q' r c)) (h : cb M n s k Q) : cb M n s' k Q' := fun r hr => by
  obtain ⟨x, h1, h2, h3⟩ := h r hr
  exact ⟨x, h1, by rw [e r hr]; exact h2, fun c hc => (h3 c hc).trans (q r c hr hc)⟩
theorem cx_F_k {s s' : hq_S} (e : ∀ c i, c = 152 ∨ c = 153 → hq_gi s' c i = hq_gi s c i) (F : cx_F n g tn s) : cx_F n g tn s' := ⟨by rw [e _ _ (by omega)]; exact F.1, by rw [e _ _ (by omega)]; exact F.2.1, by rw [e _ _ (by omega)]; exact F.2.2.1, fun c hc => by rw [e _ _ (by omega)]; exact F.2.2.2 c hc⟩
theorem cx_ix {r r' c c' : Nat} (hc : c < n) (hc' : c' < n) (h : r * n + c = r' * n + c') : r = r' ∧ c = c' := by
  have e1 : (r * n + c) / n = r := by rw [Nat.mul_comm, Nat.mul_add_div (by omega), Nat.div_eq_of_lt hc, Nat.add_zero]
  have e2 : (r' * n + c') / n = r' := by rw [Nat.mul_comm, Nat.mul_add_div (by omega), Nat.div_eq_of_lt hc', Nat.add_zero]
  have e3 : r = r' := by rw [← e1, h, e2]
  subst e3
  omega
theorem cx_il {M r c : Nat} (hr : r < M) (hc : c < n) : r * n + c < M * n := by
  have h : (r + 1) * n ≤ M * n := Nat.mul_le_mul_right n hr
  rw [Nat.add_mul] at h
  omega
/-- some of a row are lost by this round -/
theorem nl_13 {M r f : Nat} {a3 : Int32} (hM : M * n ≤ 10000) (hn : n ≤ 10) (hr : r < M) (hf : f < 2 ^ n) : ∀ (q c m : Nat) (s : hq_S), c + q = n → q < m → hq_gi s 152 0 = Int32.ofNat n → ∃ s', f_X0_noteLost_L13 N m (Int32.ofNat r) (Int32.ofNat f) a3 (Int32.ofNat c) s = some s' ∧ (∀ d, c ≤ d → d < n → f.testBit d = true → hq_gi s' 158 (r * n + d) = a3) ∧ (∀ i, (∀ d, c ≤ d → d < n → f.testBit d = true → ¬ i = r * n + d) → hq_gi s' 158 i = hq_gi s 158 i) ∧ ∀ k i, ¬ k = 158 → hq_gi s' k i = hq_gi s k i := by
  have hf2 := nb_1024 hn hf
  intro q
  induction q with
  | zero =>
    intro c m s hc hm h0
    obtain ⟨m, rfl⟩ : ∃ j, m = j + 1 := ⟨m - 1, by omega⟩
    have cc : ¬ Int32.ofNat c < Int32.ofNat n := by rw [nn_lt (by omega) (by omega)]; omega
    exact ⟨s, by simp only [f_X0_noteLost_L13_s, f_X0_noteLost_L13_B, h0, if_neg cc], fun d h1 h2 => by omega, fun _ _ => rfl, fun _ _ _ => rfl⟩
  | succ q ih =>
    intro c m s hc hm h0
    obtain ⟨m, rfl⟩ : ∃ j, m = j + 1 := ⟨m - 1, by omega⟩
    have cc : Int32.ofNat c < Int32.ofNat n := (nn_lt (by omega) (by omega)).mpr (by omega)
    have b1 := nb_bit1 (show f < 2147483648 by omega) (show c < 32 by omega)
    have il := cx_il hr (show c < n by omega)
    by_cases q1 : f.testBit c = true
    · have st : hq_st s 158 10000 (Int32.ofNat (r * n + c)) a3 = some (hq_si s 158 (r * n + c) a3) := nn_st (by omega) (by omega)
      obtain ⟨s', e1, e2, e3, e4⟩ := ih (c + 1) m (hq_si s 158 (r * n + c) a3) (by omega) (by omega) (by rw [nb_ii, if_neg (fun z => by omega)]; exact h0)
      refine ⟨s', ?_, fun d h1 h2 h3 => ?_, fun i hi => ?_, fun k i hk => (e4 k i hk).trans (by rw [nb_ii, if_neg (fun z => hk z.1)])⟩
      · rw [← e1]
        simp only [f_X0_noteLost_L13_s, f_X0_noteLost_L13_B, h0, if_pos cc, b1, if_pos q1, nb_mul, nb_add, st, Option.bind_some, nn_succ]
      · by_cases e : d = c
        · rw [e, e3 _ (fun d' h1 h2 _ z => by have := (cx_ix (by omega) h2 z).2; omega), nb_ii, if_pos ⟨rfl, rfl⟩]
        · exact e2 d (by omega) h2 h3
      · rw [e3 i (fun d h1 h2 h3 => hi d (by omega) h2 h3), nb_ii, if_neg (fun z => hi c (by omega) (by omega) q1 z.2)]
    · obtain ⟨s', e1, e2, e3, e4⟩ := ih (c + 1) m s (by omega) (by omega) h0
      refine ⟨s', ?_, fun d h1 h2 h3 => ?_, fun i hi => e3 i (fun d h1 h2 h3 => hi d (by omega) h2 h3), e4⟩
      · rw [← e1]
        simp only [f_X0_noteLost_L13_s, f_X0_noteLost_L13_B, h0, if_pos cc, b1, if_neg q1, Option.bind_some, nn_succ]
      · by_cases e : d = c
        · rw [e] at h3; exact absurd h3 q1
        · exact e2 d (by omega) h2 h3
theorem nl_all {M r f x : Nat} {a3 : Int32} {s : hq_S} (hN : 100 < N) (hM : M * n ≤ 10000) (hM1 : M ≤ 1000) (hn : n ≤ 10) (hr : r < M) (hf : f < 2 ^ n) (h0 : hq_gi s 152 0 = Int32.ofNat n) (hx : hq_gi s 155 r = Int32.ofNat x) : ∃ s', f_X0_noteLost N (Int32.ofNat r) (Int32.ofNat f) a3 s = some s' ∧ hq_gi s' 155 r = Int32.ofNat (x ||| f) ∧ (∀ i, ¬ i = r → hq_gi s' 155 i = hq_gi s 155 i) ∧ (∀ d, d < n → f.testBit d = true → hq_gi s' 158 (r * n + d) = a3) ∧ (∀ i, (∀ d, d < n → f.testBit d = true → ¬ i = r * n + d) → hq_gi s' 158 i = hq_gi s 158 i) ∧ ∀ k i, ¬ k = 158 → ¬ k = 155 → hq_gi s' k i = hq_gi s k i := by
  have ld : hq_ld s 155 1000 (Int32.ofNat r) = some (Int32.ofNat x) := by rw [nn_ld (by omega) (by omega), hx]
  have st : hq_st s 155 1000 (Int32.ofNat r) (Int32.ofNat (x ||| f)) = some (hq_si s 155 r (Int32.ofNat (x ||| f))) := nn_st (by omega) (by omega)
  obtain ⟨s', e1, e2, e3, e4⟩ := nl_13 (N := N) (a3 := a3) hM hn hr hf n 0 N (hq_si s 155 r (Int32.ofNat (x ||| f))) (by omega) (by omega) (by rw [nb_ii, if_neg (fun z => by omega)]; exact h0)
  have e1 : f_X0_noteLost_L13 N N (Int32.ofNat r) (Int32.ofNat f) a3 0 (hq_si s 155 r (Int32.ofNat (x ||| f))) = some s' := e1
  refine ⟨s', by simp only [f_X0_noteLost, ld, nb_or, st, Option.bind_some, e1], ?_, fun i hi => ?_, fun d hd hb => e2 d (by omega) hd hb, fun i hi => ?_, fun k i h1 h2 => ?_⟩
  · rw [e4 _ _ (by omega), nb_ii, if_pos ⟨rfl, rfl⟩]
  · rw [e4 _ _ (by omega), nb_ii, if_neg (fun z => hi z.2)]
  · rw [e3 i (fun d _ h2 h3 => hi d h2 h3), nb_ii, if_neg (fun z => by omega)]
  · rw [e4 _ _ h1, nb_ii, if_neg (fun z => h2 z.1)]
/-! laid out -/
def hd_Q (n b : Nat) (r c : Nat) : Prop := ∃ j, j < b ∧ dgs n b r j = c
theorem hd_Qs {b r c : Nat} : hd_Q n (b + 1) r c ↔ (hd_Q n b (r / n) c ∨ r % n = c) := by
  unfold hd_Q
  constructor
  · rintro ⟨j, h1, h2⟩
    rw [dgs] at h2
    by_cases e : j = b
    · rw [if_pos e] at h2; exact Or.inr h2
    · rw [if_neg e] at h2; exact Or.inl ⟨j, by omega, h2⟩
  · rintro (⟨j, h1, h2⟩ | h)
    · exact ⟨j, by omega, by rw [dgs, if_neg (by omega)]; exact h2⟩
    · exact ⟨b, by omega, by rw [dgs, if_pos rfl]; exact h⟩
theorem lo_39 {q14 : Int32 → hq_S → Option hq_S} {b : Nat} {a1 : Int32} (h1n : 1 ≤ n) (hn : n ≤ 10) (hM : n ^ b * n ≤ 1000) : ∀ (q m : Nat) (s : hq_S), q ≤ n ^ b * n → q < m → hq_gi s 152 0 = Int32.ofNat n → hq_gi s 152 3 = Int32.ofNat (n ^ b) → (∀ r, r < n ^ b → r < q → ∃ x, x < 2 ^ n ∧ hq_gi s 154 r = Int32.ofNat x ∧ ∀ c, c < n → (x.testBit c = true ↔ hd_Q n b r c)) → (∀ r, q ≤ r → r < n ^ b * n → ∃ x, x < 2 ^ n ∧ hq_gi s 154 r = Int32.ofNat x ∧ ∀ c, c < n → (x.testBit c = true ↔ hd_Q n (b + 1) r c)) → ∃ s', f_X0_layOut_L39 N q14 m a1 (Int32.ofNat q - 1) s = q14 (a1 + 1) s' ∧ cb (n ^ b * n) n s' 154 (hd_Q n (b + 1)) ∧ hq_gi s' 152 3 = Int32.ofNat (n ^ b * n) ∧ (∀ i, ¬ i = 3 → hq_gi s' 152 i = hq_gi s 152 i) ∧ ∀ k i, ¬ k = 152 → ¬ k = 154 → hq_gi s' k i = hq_gi s k i := by
  intro q
  induction q with
  | zero =>
    intro m s hq hm h0 h3 hl hh
    obtain ⟨m, rfl⟩ : ∃ j, m = j + 1 := ⟨m - 1, by omega⟩
    have cc : Int32.ofNat 0 - 1 < (0 : Int32) := by decide
    refine ⟨hq_si s 152 3 (Int32.ofNat (n ^ b * n)), by simp only [f_X0_layOut_L39_s, f_X0_layOut_L39_B, if_pos cc, h3, h0, nb_mul, nn_pi, Option.bind_some], fun r hr => ?_, by rw [nb_ii, if_pos ⟨rfl, rfl⟩], fun i hi => by rw [nb_ii, if_neg (fun z => hi z.2)], fun k i h1 h2 => by rw [nb_ii, if_neg (fun z => h1 z.1)]⟩
    obtain ⟨x, x1, x2, x3⟩ := hh r (by omega) hr
    exact ⟨x, x1, by rw [nb_ii, if_neg (fun z => by omega)]; exact x2, x3⟩
  | succ q ih =>
    intro m s hq hm h0 h3 hl hh
    obtain ⟨m, rfl⟩ : ∃ j, m = j + 1 := ⟨m - 1, by omega⟩
    have nq : ¬ Int32.ofNat q < 0 := nn_nlt0 (by omega)
    have dv : hq_idiv (Int32.ofNat q) (Int32.ofNat n) = some (Int32.ofNat (q / n)) := nb_div (by omega) (by omega) (by omega)
    have rm : hq_irem (Int32.ofNat q) (Int32.ofNat n) = some (Int32.ofNat (q % n)) := nb_rem (by omega) (by omega) (by omega)
    have d1 : q / n < n ^ b := by rw [Nat.div_lt_iff_lt_mul (by omega)]; omega
    have d2 : q / n ≤ q := Nat.div_le_self q n
    have m1 : q % n < n := Nat.mod_lt _ (by omega)
    obtain ⟨x, x1, x2, x3⟩ := hl (q / n) d1 (by omega)
    have ld : hq_ld s 154 1000 (Int32.ofNat (q / n)) = some (Int32.ofNat x) := by rw [nn_ld (by omega) (by omega), x2]
    have st : hq_st s 154 1000 (Int32.ofNat q) (Int32.ofNat (x ||| 2 ^ (q % n))) = some (hq_si s 154 q (Int32.ofNat (x ||| 2 ^ (q % n)))) := nn_st (by omega) (by omega)
    obtain ⟨s', e1, e2, e3, e4, e5⟩ := ih m (hq_si s 154 q (Int32.ofNat (x ||| 2 ^ (q % n)))) (by omega) (by omega) (by rw [nb_ii, if_neg (fun z => by omega)]; exact h0) (by rw [nb_ii, if_neg (fun z => by omega)]; exact h3) (fun r hr hr2 => by
      rw [nb_ii, if_neg (fun z => by omega)]
      exact hl r hr (by omega)) (fun r hr hr2 => by
      rw [nb_ii]
      by_cases e : r = q
      · rw [if_pos ⟨rfl, e⟩]
        refine ⟨x ||| 2 ^ (q % n), nb_lt_or x1 (nb_2lt m1), rfl, fun c hc => ?_⟩
        rw [e, hd_Qs, Nat.testBit_or, Bool.or_eq_true, x3 c hc, nb_2p, decide_eq_true_iff]
      · rw [if_neg (fun z => e z.2)]
        exact hh r (by omega) hr2)
    refine ⟨s', ?_, e2, e3, fun i hi => (e4 i hi).trans (by rw [nb_ii, if_neg (fun z => by omega)]), fun k i h1 h2 => (e5 k i h1 h2).trans (by rw [nb_ii, if_neg (fun z => h2 z.1)])⟩
    rw [← e1, nn_pred]
    simp only [f_X0_layOut_L39_s, f_X0_layOut_L39_B, if_neg nq, h0, dv, rm, ld, Option.bind_some, nb_one (show q % n < 32 by omega), nb_or, st, sd_dec]
theorem lo_14 (h1n : 1 ≤ n) (hn : n ≤ 10) (hN : 1100 < N) (hg : g ≤ 3) (hM : n ^ g ≤ 1000) : ∀ (q b m : Nat) (s : hq_S), b + q = g → q < m → hq_gi s 152 0 = Int32.ofNat n → hq_gi s 152 2 = Int32.ofNat g → hq_gi s 152 3 = Int32.ofNat (n ^ b) → cb (n ^ b) n s 154 (hd_Q n b) → ∃ s', f_X0_layOut_L14 N m (Int32.ofNat b) s = f_X0_layOut_L96 N N 0 s' ∧ cb (n ^ g) n s' 154 (hd_Q n g) ∧ hq_gi s' 152 3 = Int32.ofNat (n ^ g) ∧ (∀ i, ¬ i = 3 → hq_gi s' 152 i = hq_gi s 152 i) ∧ ∀ k i, ¬ k = 152 → ¬ k = 154 → hq_gi s' k i = hq_gi s k i := by
  intro q
  induction q with
  | zero =>
    intro b m s hb hm h0 h2 h3 hh
    obtain ⟨m, rfl⟩ : ∃ j, m = j + 1 := ⟨m - 1, by omega⟩
    have hb : b = g := by omega
    subst hb
    have cc : ¬ Int32.ofNat b < Int32.ofNat b := by rw [nn_lt (by omega) (by omega)]; omega
    exact ⟨s, by simp only [f_X0_layOut_L14_s, f_X0_layOut_L14_B, f_X0_layOut_J94, h2, if_neg cc], hh, h3, fun _ _ => rfl, fun _ _ _ _ => rfl⟩
  | succ q ih =>
    intro b m s hb hm h0 h2 h3 hh
    obtain ⟨m, rfl⟩ : ∃ j, m = j + 1 := ⟨m - 1, by omega⟩
    have cc : Int32.ofNat b < Int32.ofNat g := (nn_lt (by omega) (by omega)).mpr (by omega)
    have c3 : Int32.ofNat b < (3 : Int32) := by rw [nb_lit 3, nn_lt (by omega) (by omega)]; omega
    have ps : n ^ b * n = n ^ (b + 1) := (Nat.pow_succ n b).symm
    have pl : n ^ (b + 1) ≤ n ^ g := Nat.pow_le_pow_right (by omega) (by omega)
    have pg : n ^ b ≤ n ^ (b + 1) := Nat.pow_le_pow_right (by omega) (by omega)
    obtain ⟨s1, e1, e2, e3, e4, e5⟩ := lo_39 (N := N) (q14 := f_X0_layOut_L14 N m) (b := b) (a1 := Int32.ofNat b) h1n hn (by omega) (n ^ b * n) N s (Nat.le_refl _) (by omega) h0 h3 (fun r hr _ => hh r hr) (fun r h1 h2 => by omega)
    rw [ps] at e2 e3
    obtain ⟨s', f1, f2, f3, f4, f5⟩ := ih (b + 1) m s1 (by omega) (by omega) (by rw [e4 _ (by omega)]; exact h0) (by rw [e4 _ (by omega)]; exact h2) e3 e2
    refine ⟨s', ?_, f2, f3, fun i hi => (f4 i hi).trans (e4 i hi), fun k i h1 h2 => (f5 k i h1 h2).trans (e5 k i h1 h2)⟩
    rw [← f1, ← nn_succ, ← e1]
    simp only [f_X0_layOut_L14_s, f_X0_layOut_L14_B, h2, if_pos cc, if_pos c3, h3, h0, nb_mul]
theorem lo_96 {M : Nat} (hM : M * n ≤ 10000) : ∀ (q k m : Nat) (s : hq_S), k + q = M * n → q < m → hq_gi s 152 0 = Int32.ofNat n → hq_gi s 152 3 = Int32.ofNat M → (∀ i, i < k → hq_gi s 158 i = 2147483647) → ∃ s', f_X0_layOut_L96 N m (Int32.ofNat k) s = f_X0_layOut_L125 N N 0 s' ∧ (∀ i, i < M * n → hq_gi s' 158 i = 2147483647) ∧ ∀ k i, ¬ k = 158 → hq_gi s' k i = hq_gi s k i := by
  intro q
  induction q with
  | zero =>
    intro k m s hk hm h0 h3 h
    obtain ⟨m, rfl⟩ : ∃ j, m = j + 1 := ⟨m - 1, by omega⟩
    have cc : ¬ Int32.ofNat k < Int32.ofNat (M * n) := by rw [nn_lt (by omega) (by omega)]; omega
    exact ⟨s, by simp only [f_X0_layOut_L96_s, f_X0_layOut_L96_B, h0, h3, nb_mul, if_neg cc], fun i hi => h i (by omega), fun _ _ _ => rfl⟩
  | succ q ih =>
    intro k m s hk hm h0 h3 h
    obtain ⟨m, rfl⟩ : ∃ j, m = j + 1 := ⟨m - 1, by omega⟩
    have cc : Int32.ofNat k < Int32.ofNat (M * n) := (nn_lt (by omega) (by omega)).mpr (by omega)
    have st : hq_st s 158 10000 (Int32.ofNat k) 2147483647 = some (hq_si s 158 k 2147483647) := nn_st (by omega) (by omega)
    obtain ⟨s', e1, e2, e3⟩ := ih (k + 1) m (hq_si s 158 k 2147483647) (by omega) (by omega) (by rw [nb_ii, if_neg (fun z => by omega)]; exact h0) (by rw [nb_ii, if_neg (fun z => by omega)]; exact h3) (fun i hi => by
      rw [nb_ii]
      by_cases e : i = k
      · rw [if_pos ⟨rfl, e⟩]
      · rw [if_neg (fun z => e z.2)]; exact h i (by omega))
    refine ⟨s', ?_, e2, fun k i h => (e3 k i h).trans (by rw [nb_ii, if_neg (fun z => h z.1)])⟩
    rw [← e1]
    simp only [f_X0_layOut_L96_s, f_X0_layOut_L96_B, h0, h3, nb_mul, if_pos cc, st, Option.bind_some, nn_succ]
theorem cL0 {r c : Nat} : cL n g tn 0 (dgs n g r) c ↔ hd_Q n g r c := Iff.rfl
theorem lo_125 (hn : n ≤ 10) (hN : 1100 < N) (hM1 : n ^ g ≤ 1000) (hM : n ^ g * n ≤ 10000) : ∀ (q k m : Nat) (s : hq_S), k + q = n ^ g → q < m → hq_gi s 152 0 = Int32.ofNat n → hq_gi s 152 3 = Int32.ofNat (n ^ g) → cb (n ^ g) n s 154 (hd_Q n g) → (∀ r c, r < n ^ g → c < n → (r < k → rv n g tn 0 r c (hq_gi s 158 (r * n + c))) ∧ (k ≤ r → hq_gi s 158 (r * n + c) = 2147483647)) → (∀ r, r < k → ∃ x, x < 2 ^ n ∧ hq_gi s 155 r = Int32.ofNat x ∧ ∀ c, c < n → (x.testBit c = true ↔ cL n g tn 0 (dgs n g r) c)) → ∃ s', f_X0_layOut_L125 N m (Int32.ofNat k) s = some s' ∧ cb (n ^ g) n s' 155 (fun r c => cL n g tn 0 (dgs n g r) c) ∧ (∀ r c, r < n ^ g → c < n → rv n g tn 0 r c (hq_gi s' 158 (r * n + c))) ∧ ∀ k i, ¬ k = 158 → ¬ k = 155 → hq_gi s' k i = hq_gi s k i := by
  intro q
  induction q with
  | zero =>
    intro k m s hk hm h0 h3 hh h1 h2
    obtain ⟨m, rfl⟩ : ∃ j, m = j + 1 := ⟨m - 1, by omega⟩
    have cc : ¬ Int32.ofNat k < Int32.ofNat (n ^ g) := by rw [nn_lt (by omega) (by omega)]; omega
    exact ⟨s, by simp only [f_X0_layOut_L125_s, f_X0_layOut_L125_B, h3, if_neg cc], fun r hr => h2 r (by omega), fun r c hr hc => (h1 r c hr hc).1 (by omega), fun _ _ _ _ => rfl⟩
  | succ q ih =>
    intro k m s hk hm h0 h3 hh h1 h2
    obtain ⟨m, rfl⟩ : ∃ j, m = j + 1 := ⟨m - 1, by omega⟩
    have cc : Int32.ofNat k < Int32.ofNat (n ^ g) := (nn_lt (by omega) (by omega)).mpr (by omega)
    have st : hq_st s 155 1000 (Int32.ofNat k) 0 = some (hq_si s 155 k 0) := nn_st (by omega) (by omega)
    obtain ⟨x, x1, x2, x3⟩ := hh k (by omega)
    have ld : hq_ld (hq_si s 155 k 0) 154 1000 (Int32.ofNat k) = some (Int32.ofNat x) := by rw [nn_ld (by omega) (by omega), nb_ii, if_neg (fun z => by omega), x2]
    obtain ⟨s1, f1, f2, f3, f4, f5, f6⟩ := nl_all (N := N) (M := n ^ g) (r := k) (f := x) (x := 0) (a3 := 0) (s := hq_si s 155 k 0) (by omega) hM hM1 hn (by omega) x1 (by rw [nb_ii, if_neg (fun z => by omega)]; exact h0) (by rw [nb_ii, if_pos ⟨rfl, rfl⟩]; rfl)
    rw [Nat.zero_or] at f2
    obtain ⟨s', e1, e2, e3, e4⟩ := ih (k + 1) m s1 (by omega) (by omega) (by rw [f6 _ _ (by omega) (by omega), nb_ii, if_neg (fun z => by omega)]; exact h0) (by rw [f6 _ _ (by omega) (by omega), nb_ii, if_neg (fun z => by omega)]; exact h3) (cb_cg (fun r _ => by rw [f6 _ _ (by omega) (by omega), nb_ii, if_neg (fun z => by omega)]) (fun _ _ _ _ => Iff.rfl) hh) (fun r c hr hc => by
      by_cases e : r = k
      · refine ⟨fun _ => ?_, fun h => by omega⟩
        rw [e]
        by_cases b : x.testBit c = true
        · rw [f4 c hc b]
          exact Or.inl ⟨0, Nat.le_refl _, ⟨cL0.mpr ((x3 c hc).mp b), fun i hi => by omega⟩, rfl⟩
        · rw [f5 _ (fun d hd hb z => b (by rw [(cx_ix hc hd z).2]; exact hb)), nb_ii, if_neg (fun z => by omega)]
          exact Or.inr ⟨(h1 k c (by omega) hc).2 (Nat.le_refl _), fun z => b ((x3 c hc).mpr (cL0.mp z))⟩
      · have sm : hq_gi s1 158 (r * n + c) = hq_gi s 158 (r * n + c) := by rw [f5 _ (fun d hd _ z => e (cx_ix hc hd z).1), nb_ii, if_neg (fun z => by omega)]
        rw [sm]
        exact ⟨fun h => (h1 r c hr hc).1 (by omega), fun h => (h1 r c hr hc).2 (by omega)⟩) (fun r hr => by
      by_cases e : r = k
      · rw [e]
        exact ⟨x, x1, f2, fun c hc => (x3 c hc).trans cL0.symm⟩
      · rw [f3 r e, nb_ii, if_neg (fun z => e z.2)]
        exact h2 r (by omega))
    refine ⟨s', ?_, e2, e3, fun c i h4 h5 => (e4 c i h4 h5).trans ((f6 c i h4 h5).trans (by rw [nb_ii, if_neg (fun z => h5 z.1)]))⟩
    rw [← e1]
    simp only [f_X0_layOut_L125_s, f_X0_layOut_L125_B, h3, if_pos cc, st, ld, Option.bind_some, f1, nn_succ]
/-- all that is held of the chase by round k -/
def cS (n g : Nat) (tn : Nat → Nat) (k : Nat) (s : hq_S) : Prop := cx_F n g tn s ∧ cb (n ^ g) n s 154 (hd_Q n g) ∧ cb (n ^ g) n s 155 (fun r c => cL n g tn k (dgs n g r) c) ∧ ∀ r c, r < n ^ g → c < n → rv n g tn k r c (hq_gi s 158 (r * n + c))
theorem lo_all {s : hq_S} (h1n : 1 ≤ n) (hn : n ≤ 10) (hN : 10300 < N) (hg : g ≤ 3) (h0 : hq_gi s 152 0 = Int32.ofNat n) (h2 : hq_gi s 152 2 = Int32.ofNat g) (ht : ∀ c, c < 10 → hq_gi s 153 c = Int32.ofNat (tn c)) : ∃ s', f_X0_layOut N s = some s' ∧ cS n g tn 0 s' ∧ (∀ i, ¬ i = 3 → hq_gi s' 152 i = hq_gi s 152 i) ∧ ∀ k i, ¬ k = 152 → ¬ k = 154 → ¬ k = 155 → ¬ k = 158 → hq_gi s' k i = hq_gi s k i := by
  have p1 : n ^ g ≤ 10 ^ 3 := Nat.le_trans (Nat.pow_le_pow_left hn g) (Nat.pow_le_pow_right (by omega) hg)
  have p2 : n ^ g * n ≤ 1000 * 10 := Nat.mul_le_mul p1 hn
  have st : hq_st (hq_si s 152 3 1) 154 1000 0 0 = some (hq_si (hq_si s 152 3 1) 154 0 0) := nn_st (j := 0) (by omega) (by omega)
  obtain ⟨s1, e1, e2, e3, e4, e5⟩ := lo_14 (N := N) (g := g) h1n hn (by omega) hg p1 g 0 N (hq_si (hq_si s 152 3 1) 154 0 0) (by omega) (by omega) (by rw [nb_ii, if_neg (fun z => by omega), nb_ii, if_neg (fun z => by omega)]; exact h0) (by rw [nb_ii, if_neg (fun z => by omega), nb_ii, if_neg (fun z => by omega)]; exact h2) (by rw [nb_ii, if_neg (fun z => by omega), nb_ii, if_pos ⟨rfl, rfl⟩]; rfl) (fun r hr => by
    rw [Nat.pow_zero] at hr
    refine ⟨0, Nat.two_pow_pos n, by rw [nb_ii, if_pos ⟨rfl, by omega⟩]; rfl, fun c _ => ⟨fun h => ?_, fun ⟨j, h, _⟩ => by omega⟩⟩
    rw [Nat.zero_testBit] at h; cases h)
  have e1 : f_X0_layOut_L14 N N 0 (hq_si (hq_si s 152 3 1) 154 0 0) = _ := e1
  have k0 : hq_gi s1 152 0 = Int32.ofNat n := by rw [e4 _ (by omega), nb_ii, if_neg (fun z => by omega), nb_ii, if_neg (fun z => by omega)]; exact h0
  obtain ⟨s2, f1, f2, f3⟩ := lo_96 (N := N) (n := n) (M := n ^ g) (by omega) (n ^ g * n) 0 N s1 (by omega) (by omega) k0 e3 (fun i hi => by omega)
  have f1 : f_X0_layOut_L96 N N 0 s1 = _ := f1
  obtain ⟨s3, g1, g2, g3, g4⟩ := lo_125 (N := N) (n := n) (g := g) (tn := tn) hn (by omega) p1 (by omega) (n ^ g) 0 N s2 (by omega) (by omega) (by rw [f3 _ _ (by omega)]; exact k0) (by rw [f3 _ _ (by omega)]; exact e3) (cb_cg (fun r _ => f3 _ _ (by omega)) (fun _ _ _ _ => Iff.rfl) e2) (fun r c hr hc => ⟨fun h => by omega, fun _ => f2 _ (cx_il hr hc)⟩) (fun r hr => by omega)
  have g1 : f_X0_layOut_L125 N N 0 s2 = some s3 := g1
  have ok : ∀ k i, ¬ k = 152 → ¬ k = 154 → ¬ k = 155 → ¬ k = 158 → hq_gi s3 k i = hq_gi s k i := fun k i h1 h2 h3 h4 => by rw [g4 _ _ h4 h3, f3 _ _ h4, e5 _ _ h1 h2, nb_ii, if_neg (fun z => h2 z.1), nb_ii, if_neg (fun z => h1 z.1)]
  have o2 : ∀ i, ¬ i = 3 → hq_gi s3 152 i = hq_gi s 152 i := fun i hi => by rw [g4 _ _ (by omega) (by omega), f3 _ _ (by omega), e4 _ hi, nb_ii, if_neg (fun z => by omega), nb_ii, if_neg (fun z => hi z.2)]
  refine ⟨s3, by simp only [f_X0_layOut, nn_pi, st, Option.bind_some, e1, f1, g1], ⟨⟨by rw [o2 _ (by omega)]; exact h0, by rw [o2 _ (by omega)]; exact h2, by rw [g4 _ _ (by omega) (by omega), f3 _ _ (by omega)]; exact e3, fun c hc => by rw [ok _ _ (by omega) (by omega) (by omega) (by omega)]; exact ht c hc⟩, cb_cg (fun r _ => by rw [g4 _ _ (by omega) (by omega), f3 _ _ (by omega)]) (fun _ _ _ _ => Iff.rfl) e2, g2, g3⟩, o2, ok⟩
end
