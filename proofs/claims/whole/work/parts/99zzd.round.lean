/-! A ROUND OF ALL CORNERS: by d lanes, having been at all of S, at c -/
def rd (nx : Nat → Nat) (nc a : Nat) : Nat → Nat → Nat → Bool
  | 0, S, c => decide (S = 2 ^ a) && decide (c = a)
  | d + 1, S, c => rd nx nc a d S c || (S.testBit c && (List.range nc).any fun c' => (nx c').testBit c && (rd nx nc a d S c' || rd nx nc a d (S ^^^ 2 ^ c) c'))
def re (nx : Nat → Nat) (nc a d S c : Nat) : Prop := rd nx nc a d S c = true ∧ ∀ i, i < d → rd nx nc a i S c = false
/-- the corners of which it holds, as bits -/
def mk (P : Nat → Bool) : Nat → Nat
  | 0 => 0
  | c + 1 => mk P c ||| (if P c = true then 2 ^ c else 0)
theorem mk_t {P : Nat → Bool} {i : Nat} : ∀ n, (mk P n).testBit i = (decide (i < n) && P i)
  | 0 => by rw [mk, Nat.zero_testBit, decide_eq_false (by omega)]; rfl
  | n + 1 => by
    rw [mk, Nat.testBit_or, mk_t n]
    by_cases e : i = n
    · rw [e, decide_eq_false (by omega), decide_eq_true (by omega)]
      by_cases q : P n = true
      · rw [if_pos q, q, nb_2p, decide_eq_true rfl]; rfl
      · rw [if_neg q, Nat.zero_testBit]
        cases z : P n with
        | true => exact absurd z q
        | false => rfl
    · have h1 : (if P n = true then 2 ^ n else 0).testBit i = false := by
        split
        · rw [nb_2p, decide_eq_false (fun z => e z.symm)]
        · exact Nat.zero_testBit i
      rw [h1, Bool.or_false]
      by_cases q : i < n
      · rw [decide_eq_true q, decide_eq_true (by omega)]
      · rw [decide_eq_false q, decide_eq_false (by omega)]
theorem mk_lt {P : Nat → Bool} (n : Nat) : mk P n < 2 ^ n := by
  apply Nat.lt_pow_two_of_testBit
  intro i hi
  rw [mk_t, decide_eq_false (by omega)]
  rfl
section
variable {nx : Nat → Nat} {nc a : Nat}
theorem nb_out {S c : Nat} (h : S.testBit c = true) : (S ^^^ 2 ^ c) ||| 2 ^ c = S ∧ (S ^^^ 2 ^ c).testBit c = false := by
  constructor
  · apply nb_ext
    intro i
    rw [Nat.testBit_or, Nat.testBit_xor, nb_2p]
    by_cases e : c = i
    · rw [← e, h, decide_eq_true rfl]; rfl
    · rw [decide_eq_false e, Bool.xor_false, Bool.or_false]
  · rw [Nat.testBit_xor, h, nb_2p, decide_eq_true rfl]; rfl
theorem nb_in {S S' c : Nat} (h : S' ||| 2 ^ c = S) : S.testBit c = true ∧ (S' = S ∨ S' = S ^^^ 2 ^ c) := by
  have h1 : S.testBit c = true := by rw [← h, Nat.testBit_or, nb_2p, decide_eq_true rfl, Bool.or_true]
  refine ⟨h1, ?_⟩
  cases z : S'.testBit c with
  | true =>
    left
    rw [← h]
    apply nb_ext
    intro i
    rw [Nat.testBit_or, nb_2p]
    by_cases e : c = i
    · rw [← e, z]; rfl
    · rw [decide_eq_false e, Bool.or_false]
  | false =>
    right
    rw [← h]
    apply nb_ext
    intro i
    rw [Nat.testBit_xor, Nat.testBit_or, nb_2p]
    by_cases e : c = i
    · rw [← e, z, decide_eq_true rfl]; rfl
    · rw [decide_eq_false e, Bool.or_false, Bool.xor_false]
theorem rd_s {d S c : Nat} : rd nx nc a (d + 1) S c = true ↔ (rd nx nc a d S c = true ∨ ∃ S' c', c' < nc ∧ S' ||| 2 ^ c = S ∧ rd nx nc a d S' c' = true ∧ (nx c').testBit c = true) := by
  rw [rd, Bool.or_eq_true, Bool.and_eq_true, List.any_eq_true]
  constructor
  · rintro (h | ⟨h1, c', h2, h3⟩)
    · exact Or.inl h
    · rw [Bool.and_eq_true, Bool.or_eq_true] at h3
      obtain ⟨h3, h4 | h4⟩ := h3
      · refine Or.inr ⟨S, c', List.mem_range.mp h2, ?_, h4, h3⟩
        apply nb_ext
        intro i
        rw [Nat.testBit_or, nb_2p]
        by_cases e : c = i
        · rw [← e, h1]; rfl
        · rw [decide_eq_false e, Bool.or_false]
      · exact Or.inr ⟨S ^^^ 2 ^ c, c', List.mem_range.mp h2, (nb_out h1).1, h4, h3⟩
  · rintro (h | ⟨S', c', h1, h2, h3, h4⟩)
    · exact Or.inl h
    · obtain ⟨h5, h6⟩ := nb_in h2
      refine Or.inr ⟨h5, c', List.mem_range.mpr h1, ?_⟩
      rw [Bool.and_eq_true, Bool.or_eq_true]
      rcases h6 with e | e
      · rw [← e]; exact ⟨h4, Or.inl h3⟩
      · rw [← e]; exact ⟨h4, Or.inr h3⟩
theorem rd_up {d S c : Nat} (h : rd nx nc a d S c = true) : rd nx nc a (d + 1) S c = true := rd_s.mpr (Or.inl h)
theorem rd_le {d e S c : Nat} (hd : d ≤ e) (h : rd nx nc a d S c = true) : rd nx nc a e S c = true := by
  induction e with
  | zero => rw [show (0 : Nat) = d by omega]; exact h
  | succ e ih =>
    by_cases q : d = e + 1
    · rw [← q]; exact h
    · exact rd_up (ih (by omega))
theorem rd_nf {d S c : Nat} (h : ¬ rd nx nc a d S c = true) : rd nx nc a d S c = false := by cases q : rd nx nc a d S c with | true => exact absurd q h | false => rfl
/-- he has been where he is -/
theorem rd_in : ∀ d S c, rd nx nc a d S c = true → S.testBit c = true
  | 0, S, c, h => by
    rw [rd, Bool.and_eq_true] at h
    rw [of_decide_eq_true h.1, of_decide_eq_true h.2, nb_2p, decide_eq_true rfl]
  | d + 1, S, c, h => by
    rcases rd_s.mp h with h | ⟨S', c', -, h2, -⟩
    · exact rd_in d S c h
    · exact (nb_in h2).1
theorem rd_lt (ha : a < nc) (hx : ∀ c, nx c < 2 ^ nc) : ∀ d S c, rd nx nc a d S c = true → S < 2 ^ nc ∧ c < nc
  | 0, S, c, h => by
    rw [rd, Bool.and_eq_true] at h
    rw [of_decide_eq_true h.1, of_decide_eq_true h.2]
    exact ⟨nb_2lt ha, ha⟩
  | d + 1, S, c, h => by
    rcases rd_s.mp h with h | ⟨S', c', h1, h2, h3, h4⟩
    · exact rd_lt ha hx d S c h
    · have hc := nb_tlt (hx c') h4
      exact ⟨by rw [← h2]; exact nb_lt_or (rd_lt ha hx d S' c' h3).1 (nb_2lt hc), hc⟩
theorem re_s {d S c : Nat} : re nx nc a (d + 1) S c ↔ (rd nx nc a d S c = false ∧ ∃ S' c', c' < nc ∧ S' ||| 2 ^ c = S ∧ re nx nc a d S' c' ∧ (nx c').testBit c = true) := by
  constructor
  · rintro ⟨h1, h2⟩
    have h0 := h2 d (by omega)
    refine ⟨h0, ?_⟩
    rcases rd_s.mp h1 with h | ⟨S', c', g1, g2, g3, g4⟩
    · rw [h0] at h; cases h
    · refine ⟨S', c', g1, g2, ⟨g3, fun i hi => rd_nf fun z => ?_⟩, g4⟩
      have := rd_s.mpr (Or.inr ⟨S', c', g1, g2, z, g4⟩)
      rw [rd_le (show i + 1 ≤ d by omega) this] at h0
      cases h0
  · rintro ⟨h0, S', c', g1, g2, g3, g4⟩
    exact ⟨rd_s.mpr (Or.inr ⟨S', c', g1, g2, g3.1, g4⟩), fun i hi => rd_nf fun z => by rw [rd_le (show i ≤ d by omega) z] at h0; cases h0⟩
theorem re_rd {d S c : Nat} : re nx nc a (d + 1) S c ↔ (rd nx nc a d S c = false ∧ rd nx nc a (d + 1) S c = true) := ⟨fun h => ⟨h.2 d (by omega), h.1⟩, fun h => ⟨h.2, fun i hi => rd_nf fun z => by have := h.1; rw [rd_le (show i ≤ d by omega) z] at this; cases this⟩⟩
theorem re_ex {d S c : Nat} (h : rd nx nc a d S c = true) : ∃ j, j ≤ d ∧ re nx nc a j S c := by
  induction d with
  | zero => exact ⟨0, Nat.le_refl _, h, fun i hi => by omega⟩
  | succ d ih =>
    by_cases q : rd nx nc a d S c = true
    · obtain ⟨j, h1, h2⟩ := ih q
      exact ⟨j, by omega, h2⟩
    · exact ⟨d + 1, Nat.le_refl _, re_rd.mpr ⟨rd_nf q, h⟩⟩
theorem re_eq {i j S c : Nat} (h1 : re nx nc a i S c) (h2 : re nx nc a j S c) : i = j := by
  by_cases p : i < j
  · have := h2.2 i p
    rw [h1.1] at this; cases this
  · by_cases q : j < i
    · have := h1.2 j q
      rw [h2.1] at this; cases this
    · omega
/-! a round is no longer than 54 lanes -/
def tri : Nat → Nat
  | 0 => 0
  | q + 1 => tri q + (q + 1)
theorem nb_pop_in {S c : Nat} (h : S.testBit c = false) : ∀ m, nb_pop (S ||| 2 ^ c) m = nb_pop S m + (if c < m then 1 else 0)
  | 0 => by rw [if_neg (by omega)]; rfl
  | m + 1 => by
    rw [nb_pop, nb_pop, nb_pop_in h m, Nat.testBit_or, nb_2p]
    by_cases e : c = m
    · rw [← e, h, decide_eq_true rfl, Bool.false_or, if_pos rfl, if_neg (by omega), if_neg (by decide), if_pos (by omega)]
    · rw [decide_eq_false e, Bool.or_false]
      by_cases q : c < m
      · rw [if_pos q, if_pos (show c < m + 1 by omega)]; omega
      · rw [if_neg q, if_neg (show ¬ c < m + 1 by omega)]; omega
theorem nb_pop_cn (S : Nat) : ∀ m, nb_pop S m = cn S.testBit m
  | 0 => rfl
  | m + 1 => by rw [nb_pop, cn, nb_pop_cn S m]
theorem re_len (ha : a < nc) (hnc : nc ≤ 10) (hx : ∀ c, nx c < 2 ^ nc) : ∀ d S c p, re nx nc a d S c → nb_pop S 10 = p + 1 → d + 1 ≤ tri p + cn (rd nx nc a d S) 10 := by
  intro d
  induction d with
  | zero =>
    intro S c p h hp
    have hc := (rd_lt ha hx 0 S c h.1).2
    have := cn_lt (P := fun _ => false) (Q := rd nx nc a 0 S) 10 (fun i _ h => by cases h) ⟨c, by omega, rfl, h.1⟩
    omega
  | succ d ih =>
    intro S c p h hp
    have hc := (rd_lt ha hx _ S c h.1).2
    obtain ⟨h0, S', c', g1, g2, g3, g4⟩ := re_s.mp h
    have lt := cn_lt (P := rd nx nc a d S) (Q := rd nx nc a (d + 1) S) 10 (fun i _ h => rd_up h) ⟨c, by omega, h0, h.1⟩
    obtain ⟨k1, k2⟩ := nb_in g2
    rcases k2 with e | e
    · rw [e] at g3
      have := ih S c' p g3 hp
      omega
    · have k3 : S'.testBit c = false := by rw [e]; exact (nb_out k1).2
      have k4 := nb_pop_in k3 10
      rw [g2, hp, if_pos (by omega)] at k4
      have k5 := rd_in d S' c' g3.1
      have k6 : ∃ p', nb_pop S' 10 = p' + 1 := by
        refine ⟨nb_pop S' 10 - 1, ?_⟩
        have := cn_lt (P := fun _ => false) (Q := S'.testBit) 10 (fun i _ h => by cases h) ⟨c', by omega, rfl, k5⟩
        rw [nb_pop_cn]
        omega
      obtain ⟨p', hp'⟩ := k6
      have k7 := ih S' c' p' g3 hp'
      have k8 : cn (rd nx nc a d S') 10 ≤ nb_pop S' 10 := by
        rw [nb_pop_cn]
        exact cn_mono 10 fun i _ h => rd_in d S' i h
      have k9 : p = p' + 1 := by omega
      rw [k9, tri]
      omega
theorem re_54 (ha : a < nc) (hnc : nc ≤ 10) (hx : ∀ c, nx c < 2 ^ nc) {d S c : Nat} (h : re nx nc a d S c) : d ≤ 54 := by
  have h1 := rd_in d S c h.1
  have hc := (rd_lt ha hx d S c h.1).2
  have k6 : ∃ p, nb_pop S 10 = p + 1 := by
    refine ⟨nb_pop S 10 - 1, ?_⟩
    have := cn_lt (P := fun _ => false) (Q := S.testBit) 10 (fun i _ h => by cases h) ⟨c, by omega, rfl, h1⟩
    rw [nb_pop_cn]
    omega
  obtain ⟨p, hp⟩ := k6
  have k7 := re_len ha hnc hx d S c p h hp
  have k8 := cn_le (rd nx nc a d S) 10
  have k9 := nb_pop_le S 10
  have tm : ∀ q, q ≤ 9 → tri q ≤ 45 := by decide
  have := tm p (by omega)
  omega
/-- nothing at level d: nothing beyond -/
theorem re_none {d : Nat} (h : ∀ S c, ¬ re nx nc a d S c) : ∀ j, d ≤ j → ∀ S c, ¬ re nx nc a j S c := by
  intro j
  induction j with
  | zero => intro hj S c; rw [show (0 : Nat) = d by omega]; exact h S c
  | succ j ih =>
    intro hj S c hr
    by_cases e : d = j + 1
    · rw [← e] at hr; exact h S c hr
    · obtain ⟨-, S', c', -, -, g, -⟩ := re_s.mp hr
      exact ih (by omega) S' c' g
end
