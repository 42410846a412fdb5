/-! AN ARRAY'S CONTENTS AS A WHOLE -/
def hq_w (s : hq_S) (k : Nat) (g : Nat → Int32) : hq_S := (fun k' i => if k' = k then g i else s.1 k' i, s.2)
theorem hw_ext {s t : hq_S} (h1 : ∀ k i, hq_gi s k i = hq_gi t k i) (h2 : ∀ k i, hq_gj s k i = hq_gj t k i) (h3 : ∀ k i, hq_gr s k i = hq_gr t k i) : s = t := by
  obtain ⟨a, b, c⟩ := s
  obtain ⟨a', b', c'⟩ := t
  have e1 : a = a' := funext fun k => funext fun i => h1 k i
  have e2 : b = b' := funext fun k => funext fun i => h2 k i
  have e3 : c = c' := funext fun k => funext fun i => h3 k i
  rw [e1, e2, e3]
theorem hw_g {s : hq_S} {k i : Nat} {g : Nat → Int32} : hq_gi (hq_w s k g) k i = g i := if_pos rfl
theorem hw_n {s : hq_S} {k k' i : Nat} {g : Nat → Int32} (h : ¬ k' = k) : hq_gi (hq_w s k g) k' i = hq_gi s k' i := if_neg h
theorem hw_i {s : hq_S} {k k' i : Nat} {g : Nat → Int32} : hq_gi (hq_w s k g) k' i = if k' = k then g i else hq_gi s k' i := rfl
theorem hw_j {s : hq_S} {k k' i : Nat} {g : Nat → Int32} : hq_gj (hq_w s k g) k' i = hq_gj s k' i := rfl
theorem hw_r {s : hq_S} {k k' i : Nat} {g : Nat → Int32} : hq_gr (hq_w s k g) k' i = hq_gr s k' i := rfl
theorem hw_w {s : hq_S} {k : Nat} {g g' : Nat → Int32} : hq_w (hq_w s k g) k g' = hq_w s k g' := hw_ext (fun k' i => by
  rw [hw_i, hw_i, hw_i]
  by_cases h : k' = k
  · rw [if_pos h, if_pos h]
  · rw [if_neg h, if_neg h, if_neg h]) (fun _ _ => rfl) fun _ _ => rfl
theorem hw_self {s : hq_S} {k : Nat} {g : Nat → Int32} (h : ∀ i, g i = hq_gi s k i) : hq_w s k g = s := hw_ext (fun k' i => by
  rw [hw_i]
  by_cases q : k' = k
  · rw [if_pos q, q, h i]
  · rw [if_neg q]) (fun _ _ => rfl) fun _ _ => rfl
theorem hw_si {s : hq_S} {k i : Nat} {x : Int32} : hq_si s k i x = hq_w s k fun j => if j = i then x else hq_gi s k j := hw_ext (fun k' i' => by
  rw [hw_i, nb_ii]
  by_cases q : k' = k
  · by_cases q2 : i' = i
    · rw [if_pos ⟨q, q2⟩, if_pos q, if_pos q2]
    · rw [if_neg fun h => q2 h.2, if_pos q, if_neg q2, q]
  · rw [if_neg fun h => q h.1, if_neg q]) (fun _ _ => rfl) fun _ _ => rfl
theorem hw_ws {s : hq_S} {k i : Nat} {g : Nat → Int32} {x : Int32} : hq_si (hq_w s k g) k i x = hq_w s k fun j => if j = i then x else g j := by
  rw [hw_si, hw_w]
  congr 1
  funext j
  rw [hw_g]
theorem hw_cg {s : hq_S} {k : Nat} {g g' : Nat → Int32} (h : ∀ i, g i = g' i) : hq_w s k g = hq_w s k g' := congrArg _ (funext h)
theorem hw_ld {s : hq_S} {k k' L j : Nat} {g : Nat → Int32} (h : j < L) (hL : L < 2147483648) : hq_ld (hq_w s k g) k' L (Int32.ofNat j) = some (if k' = k then g j else hq_gi s k' j) := nn_ld h hL
/-! Arrays.fill of ints -/
theorem nb_fillL {N k L : Nat} {x : Int32} (hk : hq_alI k = some L) (hL : L < 2147483648) : ∀ (r j m : Nat) (s : hq_S), j + r = L → r < m → f_J7_fill_53178_L5 N m k x (Int32.ofNat j) (Int32.ofNat L) s = some (hq_w s k fun i => if j ≤ i ∧ i < L then x else hq_gi s k i) := by
  intro r
  induction r with
  | zero =>
    intro j m s hj hm
    obtain ⟨m, rfl⟩ : ∃ k, m = k + 1 := ⟨m - 1, by omega⟩
    have c : ¬ Int32.ofNat j < Int32.ofNat L := by rw [nn_lt (by omega) hL]; omega
    simp only [f_J7_fill_53178_L5_s, f_J7_fill_53178_L5_B, if_neg c]
    exact congrArg some (hw_self fun i => if_neg (by omega)).symm
  | succ r ih =>
    intro j m s hj hm
    obtain ⟨m, rfl⟩ : ∃ k, m = k + 1 := ⟨m - 1, by omega⟩
    have c : Int32.ofNat j < Int32.ofNat L := (nn_lt (by omega) hL).mpr (by omega)
    have e : hq_stiA s k (Int32.ofNat j) x = some (hq_si s k j x) := by
      unfold hq_stiA
      rw [hk]
      exact nn_st (by omega) hL
    simp only [f_J7_fill_53178_L5_s, f_J7_fill_53178_L5_B, if_pos c, e, Option.bind_some, nn_succ]
    rw [ih (j + 1) m _ (by omega) (by omega), hw_si, hw_w]
    refine congrArg some (hw_cg fun i => ?_)
    rw [hw_g]
    by_cases q : i = j
    · rw [if_neg (by omega), if_pos q, if_pos (by omega)]
    · by_cases q2 : j + 1 ≤ i ∧ i < L
      · rw [if_pos q2, if_pos (by omega)]
      · rw [if_neg q2, if_neg q, if_neg (by omega)]
theorem nb_fill {N k L : Nat} {x : Int32} {s : hq_S} (hk : hq_alI k = some L) (hk' : hq_alA k = some (Int32.ofNat L)) (hL : L < 2147483648) (hN : L < N) : f_J7_fill_53178 N k x s = some (hq_w s k fun i => if i < L then x else hq_gi s k i) := by
  unfold f_J7_fill_53178
  rw [hk', Option.bind_some, nb_0, nb_fillL hk hL L 0 N s (by omega) hN]
  refine congrArg some (hw_cg fun i => ?_)
  by_cases q : i < L
  · rw [if_pos (by omega), if_pos q]
  · rw [if_neg (by omega), if_neg q]
/-! WHAT IS NEXT, HOW FAR: pure -/
/-- sets of corners next to each corner by the first k lanes -/
def ly_nx (fr to on : Nat → Nat) (bar : Nat) (both : Bool) : Nat → Nat → Nat
  | 0, _ => 0
  | k + 1, c => if both = false ∧ bar.testBit k = true then ly_nx fr to on bar both k c else (ly_nx fr to on bar both k c ||| (if c = fr k then 2 ^ to k else 0)) ||| (if (both = true ∨ on k = 0) ∧ c = to k then 2 ^ fr k else 0)
theorem ly_nx_lt {fr to on : Nat → Nat} {bar nc : Nat} {both : Bool} : ∀ {n : Nat}, (∀ k, k < n → fr k < nc ∧ to k < nc) → ∀ c, ly_nx fr to on bar both n c < 2 ^ nc := by
  intro n
  induction n with
  | zero => intro _ c; exact Nat.two_pow_pos nc
  | succ n ih =>
    intro h c
    have h1 := ih (fun k hk => h k (by omega)) c
    obtain ⟨h2, h3⟩ := h n (by omega)
    rw [ly_nx]
    have z := Nat.two_pow_pos nc
    have p1 := nb_2lt h2
    have p2 := nb_2lt h3
    split
    · exact h1
    · refine nb_lt_or (nb_lt_or h1 ?_) ?_ <;> split <;> assumption
/-- all that is next to one of a set of the first n corners -/
def bf_any (nx : Nat → Nat) (e : Nat) : Nat → Nat
  | 0 => 0
  | c + 1 => bf_any nx e c ||| (if e.testBit c = true then nx c else 0)
theorem bf_any_lt {nx : Nat → Nat} {e nc : Nat} (h : ∀ c, nx c < 2 ^ nc) (n : Nat) : bf_any nx e n < 2 ^ nc := by
  induction n with
  | zero => exact Nat.two_pow_pos nc
  | succ n ih =>
    rw [bf_any]
    refine nb_lt_or ih ?_
    split
    · exact h n
    · exact Nat.two_pow_pos nc
/-- ring by ring: fuel, been, edge, how far, row -/
def bf_go (nx : Nat → Nat) (nc : Nat) : Nat → Nat → Nat → Nat → (Nat → Nat) → Nat → Nat
  | 0, _, _, _, row => row
  | f + 1, been, e, d, row => if e = 0 then row else bf_go nx nc f (been ||| e) (nb_df (bf_any nx e nc) (been ||| e)) (d + 1) (fun c => if e.testBit c = true then d else row c)
def bf_far (nx : Nat → Nat) (nc a b : Nat) : Nat := bf_go nx nc 10 0 (2 ^ a) 0 (fun _ => 99) b
/-- how many of the first n aren't in a set -/
def nb_cnt (a : Nat) : Nat → Nat
  | 0 => 0
  | c + 1 => nb_cnt a c + (if a.testBit c = true then 0 else 1)
theorem nb_cnt_le (a n : Nat) : nb_cnt a n ≤ n := by
  induction n with
  | zero => exact Nat.le_refl 0
  | succ n ih => rw [nb_cnt]; split <;> omega
theorem nb_cnt_mono (a e n : Nat) : nb_cnt (a ||| e) n ≤ nb_cnt a n := by
  induction n with
  | zero => exact Nat.le_refl 0
  | succ n ih =>
    rw [nb_cnt, nb_cnt, Nat.testBit_or]
    by_cases q : a.testBit n = true
    · rw [if_pos q, if_pos (by rw [q]; rfl)]
      omega
    · rw [if_neg q]
      split <;> omega
theorem nb_cnt_lt {a e i : Nat} (he : e.testBit i = true) (ha : a.testBit i = false) : ∀ n, i < n → nb_cnt (a ||| e) n + 1 ≤ nb_cnt a n := by
  intro n
  induction n with
  | zero => intro h; omega
  | succ n ih =>
    intro hi
    rw [nb_cnt, nb_cnt]
    by_cases q : i = n
    · subst q
      rw [Nat.testBit_or, ha, he, Bool.false_or, if_pos rfl, if_neg (by decide)]
      have := nb_cnt_mono a e i
      omega
    · have := ih (by omega)
      have z : (if (a ||| e).testBit n = true then 0 else 1) ≤ if a.testBit n = true then 0 else 1 := by
        rw [Nat.testBit_or]
        cases a.testBit n <;> cases e.testBit n <;> decide
      omega
theorem nb_cnt_0 {a : Nat} : ∀ {n : Nat}, nb_cnt a n = 0 → ∀ i, i < n → a.testBit i = true := by
  intro n
  induction n with
  | zero => intro _ i hi; omega
  | succ n ih =>
    intro h i hi
    rw [nb_cnt] at h
    by_cases q : a.testBit n = true
    · by_cases q2 : i = n
      · rw [q2]; exact q
      · exact ih (by omega) i (by omega)
    · rw [if_neg q] at h
      omega
theorem bf_go_lt {nx : Nat → Nat} {nc b : Nat} : ∀ (f been e d : Nat) (row : Nat → Nat), (∀ c, row c ≤ b) → d + f ≤ b + 1 → ∀ c, bf_go nx nc f been e d row c ≤ b := by
  intro f
  induction f with
  | zero => intro been e d row h _ c; exact h c
  | succ f ih =>
    intro been e d row h hd c
    rw [bf_go]
    split
    · exact h c
    · refine ih _ _ _ _ (fun c => ?_) (by omega) c
      show (if e.testBit c = true then d else row c) ≤ b
      split
      · omega
      · exact h c
theorem bf_far_lt (nx : Nat → Nat) (nc a b : Nat) : bf_far nx nc a b ≤ 99 := bf_go_lt 10 0 (2 ^ a) 0 (fun _ => 99) (fun _ => Nat.le_refl 99) (by omega) b
