/-! THE READER: the reference's first halves stay while it reads -/
def hgI (s : hq_S) : Prop := ∀ j, 7 ≤ j → j ≤ 13 → ¬ j = 11 → ¬ j = 12 → ∃ n : Nat, n ≤ 200 ∧ hq_gi s 176 j = Int32.ofNat n
def hgK (s y : hq_S) : Prop := ∀ k i, 176 ≤ k → k ≤ 193 → i < hf k → hq_gi y k i = hq_gi s k i
def hg (s y : hq_S) : Prop := hgI s → hgI y ∧ hgK s y
theorem hg_rf (s : hq_S) : hg s s := fun I => ⟨I, fun _ _ _ _ _ => rfl⟩
theorem hg_tr {s t u : hq_S} (h : hg s t) (g : hg t u) : hg s u := fun I => ⟨(g (h I).1).1, fun k i h1 h2 h3 => ((g (h I).1).2 k i h1 h2 h3).trans ((h I).2 k i h1 h2 h3)⟩
theorem hg_of {s t : hq_S} (h : ∀ k i, 176 ≤ k → hq_gi t k i = hq_gi s k i) : hg s t := fun I => ⟨fun j h1 h2 h3 h4 => by
  obtain ⟨n, n1, n2⟩ := I j h1 h2 h3 h4
  exact ⟨n, n1, (h 176 j (by omega)).trans n2⟩, fun k i h1 _ _ => h k i h1⟩
def hg_ok (W : List (Nat × Option Nat)) : Bool := W.all fun w => Nat.blt w.1 176
theorem hg_nw {W : List (Nat × Option Nat)} (h : hg_ok W = true) {k i : Nat} (hk : 176 ≤ k) : hq_nw W k i = true := by
  unfold hq_nw
  refine List.all_eq_true.mpr fun w hw => ?_
  have h1 := List.all_eq_true.mp h w hw
  rw [Nat.blt_eq] at h1
  have h2 : Nat.beq w.1 k = false := by
    cases e : Nat.beq w.1 k with
    | false => rfl
    | true => have := Nat.eq_of_beq_eq_true e; omega
  rw [h2]; rfl
theorem hg_fw {W : List (Nat × Option Nat)} {s t : hq_S} (h : hg_ok W = true) (f : hq_fc W s t) : hg s t := hg_of fun k i hk => (f k i (hg_nw h hk)).1
theorem hg_pi {s s1 : hq_S} {k b c : Nat} {x : Int32} (h : hq_pi s k b c x = some s1) (hk : Nat.blt k 176 = true) : hg s s1 := by
  rw [Nat.blt_eq] at hk
  unfold hq_pi at h
  rcases mm_bif h with ⟨-, h⟩ | ⟨-, h⟩
  · cases h; exact hg_of fun k' i hk' => nn_gk (by omega)
  · cases h
theorem hg_si {s : hq_S} {c m : Nat} {x : Int32} (hc : 177 ≤ c) (hm : hf c ≤ m) : hg s (hq_si s c m x) := fun I => ⟨fun j h1 h2 h3 h4 => by
  obtain ⟨n, n1, n2⟩ := I j h1 h2 h3 h4
  exact ⟨n, n1, (nn_gk (by omega)).trans n2⟩, fun k i h1 h2 h3 => nn_n (fun q => by
    obtain ⟨q1, q2⟩ := q
    rw [q1, q2] at h3
    omega)⟩
theorem hg_stv {s s1 : hq_S} {c L m : Nat} {x : Int32} (h : hq_st s c L (Int32.ofNat m) x = some s1) (hm : m < 2147483648) : m < L ∧ s1 = hq_si s c m x := by
  unfold hq_st at h
  rcases mm_bif h with ⟨g, h⟩ | ⟨-, h⟩
  · unfold mm_in at g
    obtain ⟨-, g2⟩ := Bool.and_eq_true_iff.mp g
    rw [nn_clamp hm, Nat.blt_eq] at g2
    rw [nn_clamp hm] at h
    cases h
    exact ⟨g2, rfl⟩
  · cases h
theorem hg_st {s s1 : hq_S} {c L m : Nat} {x : Int32} (h : hq_st s c L (Int32.ofNat m) x = some s1) (hm : m < 2147483648) (hc : 177 ≤ c) (hh : hf c ≤ m) : hg s s1 ∧ m < L := by
  obtain ⟨h1, h2⟩ := hg_stv h hm
  rw [h2]
  exact ⟨hg_si hc hh, h1⟩
theorem hg_reads {n j : Nat} {a x : Int32} {s s1 : hq_S} (h : f_X12_reads n a x s = some s1) (ha : a = Int32.ofNat j) (hj : j < 7) (hx : (j = 4 ∨ j = 5) ∨ ∃ k : Nat, k ≤ 200 ∧ x = Int32.ofNat k) : hg s s1 := by
  rw [reads_v ha hj] at h
  cases h
  intro I
  refine ⟨fun i h1 h2 h3 h4 => ?_, fun k i h1 h2 h3 => nn_n (fun q => ?_)⟩
  · by_cases e : i = 7 + j
    · rw [e, nn_g1]
      rcases hx with q | q
      · omega
      · exact q
    · obtain ⟨n, n1, n2⟩ := I i h1 h2 h3 h4
      exact ⟨n, n1, (nn_n (fun q => e q.2)).trans n2⟩
  · obtain ⟨q1, q2⟩ := q
    rw [q1] at h3
    have : hf 176 = 7 := rfl
    omega
theorem hg_puts {n : Nat} {a1 a2 : Int32} {s y : hq_S} (h : f_X12_puts n a1 a2 s = some y) : hg s y := by
  unfold f_X12_puts at h
  by_cases c : hq_gi s 174 28 = 0
  · intro I
    obtain ⟨k, k1, k2⟩ := I 13 (by omega) (by omega) (by omega) (by omega)
    rw [if_pos c, fresher_v (a := 6) (j := 6) rfl (by omega), show hq_gi s 176 (7 + 6) = Int32.ofNat k from k2] at h
    simp only [ob] at h
    rw [show (64 : Int32) = Int32.ofNat 64 from rfl, nb_add] at h
    obtain ⟨s3, hs3, h⟩ := hq_bind h
    obtain ⟨l3, e3⟩ := hg_stv hs3 (by omega)
    have q3 : hq_gi s3 176 (7 + 6) = Int32.ofNat k := by rw [e3, nn_gk (by omega)]; exact k2
    rw [fresher_v (a := 6) (j := 6) rfl (by omega), q3] at h
    simp only [ob] at h
    rw [nb_add] at h
    obtain ⟨s5, hs5, h⟩ := hq_bind h
    obtain ⟨l5, e5⟩ := hg_stv hs5 (by omega)
    have q5 : hq_gi s5 176 (7 + 6) = Int32.ofNat k := by rw [e5, nn_gk (by omega)]; exact q3
    rw [fresher_v (a := 6) (j := 6) rfl (by omega), q5] at h
    simp only [ob] at h
    rw [nn_succ] at h
    obtain ⟨s7, hs7, h⟩ := hq_bind h
    cases h
    have t3 : hg s s3 := by rw [e3]; exact hg_si (by omega) (Nat.le_add_right _ _)
    have t5 : hg s3 s5 := by rw [e5]; exact hg_si (by omega) (Nat.le_add_right _ _)
    exact hg_tr (hg_tr t3 t5) (hg_reads (j := 6) hs7 rfl (by omega) (Or.inr ⟨k + 1, by omega, rfl⟩)) I
  · rw [if_neg c] at h
    cases h
    exact hg_rf _
theorem f_X12_expression_L4_B_hg {n : Nat} {R0 : hq_S → Option hq_S} {R1 : hq_S → Option hq_S} {R2 : hq_S → Option hq_S} {R3 : hq_S → Option hq_S} {R4 : hq_S → Option hq_S} {R5 : hq_S → Option hq_S} {q4 : hq_S → Option hq_S} {s : hq_S} {y : hq_S} (E0 : ∀ (s : hq_S) (y : hq_S), R0 s = some y → hg s y) (E1 : ∀ (s : hq_S) (y : hq_S), R1 s = some y → hg s y) (E2 : ∀ (s : hq_S) (y : hq_S), R2 s = some y → hg s y) (E3 : ∀ (s : hq_S) (y : hq_S), R3 s = some y → hg s y) (E4 : ∀ (s : hq_S) (y : hq_S), R4 s = some y → hg s y) (E5 : ∀ (s : hq_S) (y : hq_S), R5 s = some y → hg s y) (e4 : ∀ (s : hq_S), q4 s = some y → hg s y) (h : f_X12_expression_L4_B n R0 R1 R2 R3 R4 R5 q4 s = some y) : hg s y := by
  unfold f_X12_expression_L4_B at h
  have t := hg_rf s
  obtain ⟨y2, hy2, h⟩ := hq_bind h
  have t := hg_tr t (hg_fw (by decide) (f_X12_isWord_fw hy2))
  by_cases c3 : y2.1 = 0
  · rw [if_pos c3] at h
    have h := Option.some.inj h
    subst h
    exact t
  · rw [if_neg c3] at h
    obtain ⟨s4, hs4, h⟩ := hq_bind h
    have t := hg_tr t (hg_fw (by decide) (f_X12_knot_fw hs4))
    obtain ⟨s5, hs5, h⟩ := hq_bind h
    have t := hg_tr t (hg_fw (by decide) (f_X12_goOn_fw hs5))
    obtain ⟨s6, hs6, h⟩ := hq_bind h
    have t := hg_tr t (E1 _ _ hs6)
    obtain ⟨s7, hs7, h⟩ := hq_bind h
    have t := hg_tr t (hg_puts hs7)
    exact hg_tr t (e4 s7 h)
theorem f_X12_expression_L4_hg {n m : Nat} {R0 : hq_S → Option hq_S} {R1 : hq_S → Option hq_S} {R2 : hq_S → Option hq_S} {R3 : hq_S → Option hq_S} {R4 : hq_S → Option hq_S} {R5 : hq_S → Option hq_S} {s : hq_S} {y : hq_S} (E0 : ∀ (s : hq_S) (y : hq_S), R0 s = some y → hg s y) (E1 : ∀ (s : hq_S) (y : hq_S), R1 s = some y → hg s y) (E2 : ∀ (s : hq_S) (y : hq_S), R2 s = some y → hg s y) (E3 : ∀ (s : hq_S) (y : hq_S), R3 s = some y → hg s y) (E4 : ∀ (s : hq_S) (y : hq_S), R4 s = some y → hg s y) (E5 : ∀ (s : hq_S) (y : hq_S), R5 s = some y → hg s y) (h : f_X12_expression_L4 n R0 R1 R2 R3 R4 R5 m s = some y) : hg s y := by
  induction m generalizing s with
  | zero => cases h
  | succ m ih => exact f_X12_expression_L4_B_hg (n := n) (q4 := f_X12_expression_L4 n R0 R1 R2 R3 R4 R5 m) E0 E1 E2 E3 E4 E5 (fun s h => ih h) h
theorem f_X12_expression_S_hg {n : Nat} {R0 : hq_S → Option hq_S} {R1 : hq_S → Option hq_S} {R2 : hq_S → Option hq_S} {R3 : hq_S → Option hq_S} {R4 : hq_S → Option hq_S} {R5 : hq_S → Option hq_S} {s : hq_S} {y : hq_S} (E0 : ∀ (s : hq_S) (y : hq_S), R0 s = some y → hg s y) (E1 : ∀ (s : hq_S) (y : hq_S), R1 s = some y → hg s y) (E2 : ∀ (s : hq_S) (y : hq_S), R2 s = some y → hg s y) (E3 : ∀ (s : hq_S) (y : hq_S), R3 s = some y → hg s y) (E4 : ∀ (s : hq_S) (y : hq_S), R4 s = some y → hg s y) (E5 : ∀ (s : hq_S) (y : hq_S), R5 s = some y → hg s y) (h : f_X12_expression_S n R0 R1 R2 R3 R4 R5 s = some y) : hg s y := by
  unfold f_X12_expression_S at h
  have t := hg_rf s
  obtain ⟨s1, hs1, h⟩ := hq_bind h
  have t := hg_tr t (E1 _ _ hs1)
  exact hg_tr t (f_X12_expression_L4_hg E0 E1 E2 E3 E4 E5 h)
theorem f_X12_conjunction_L4_B_hg {n : Nat} {R0 : hq_S → Option hq_S} {R1 : hq_S → Option hq_S} {R2 : hq_S → Option hq_S} {R3 : hq_S → Option hq_S} {R4 : hq_S → Option hq_S} {R5 : hq_S → Option hq_S} {q4 : hq_S → Option hq_S} {s : hq_S} {y : hq_S} (E0 : ∀ (s : hq_S) (y : hq_S), R0 s = some y → hg s y) (E1 : ∀ (s : hq_S) (y : hq_S), R1 s = some y → hg s y) (E2 : ∀ (s : hq_S) (y : hq_S), R2 s = some y → hg s y) (E3 : ∀ (s : hq_S) (y : hq_S), R3 s = some y → hg s y) (E4 : ∀ (s : hq_S) (y : hq_S), R4 s = some y → hg s y) (E5 : ∀ (s : hq_S) (y : hq_S), R5 s = some y → hg s y) (e4 : ∀ (s : hq_S), q4 s = some y → hg s y) (h : f_X12_conjunction_L4_B n R0 R1 R2 R3 R4 R5 q4 s = some y) : hg s y := by
  unfold f_X12_conjunction_L4_B at h
  have t := hg_rf s
  obtain ⟨y2, hy2, h⟩ := hq_bind h
  have t := hg_tr t (hg_fw (by decide) (f_X12_isWord_fw hy2))
  by_cases c3 : y2.1 = 0
  · rw [if_pos c3] at h
    have h := Option.some.inj h
    subst h
    exact t
  · rw [if_neg c3] at h
    obtain ⟨s4, hs4, h⟩ := hq_bind h
    have t := hg_tr t (hg_fw (by decide) (f_X12_knot_fw hs4))
    obtain ⟨s5, hs5, h⟩ := hq_bind h
    have t := hg_tr t (hg_fw (by decide) (f_X12_goOn_fw hs5))
    obtain ⟨s6, hs6, h⟩ := hq_bind h
    have t := hg_tr t (E2 _ _ hs6)
    obtain ⟨s7, hs7, h⟩ := hq_bind h
    have t := hg_tr t (hg_puts hs7)
    exact hg_tr t (e4 s7 h)
theorem f_X12_conjunction_L4_hg {n m : Nat} {R0 : hq_S → Option hq_S} {R1 : hq_S → Option hq_S} {R2 : hq_S → Option hq_S} {R3 : hq_S → Option hq_S} {R4 : hq_S → Option hq_S} {R5 : hq_S → Option hq_S} {s : hq_S} {y : hq_S} (E0 : ∀ (s : hq_S) (y : hq_S), R0 s = some y → hg s y) (E1 : ∀ (s : hq_S) (y : hq_S), R1 s = some y → hg s y) (E2 : ∀ (s : hq_S) (y : hq_S), R2 s = some y → hg s y) (E3 : ∀ (s : hq_S) (y : hq_S), R3 s = some y → hg s y) (E4 : ∀ (s : hq_S) (y : hq_S), R4 s = some y → hg s y) (E5 : ∀ (s : hq_S) (y : hq_S), R5 s = some y → hg s y) (h : f_X12_conjunction_L4 n R0 R1 R2 R3 R4 R5 m s = some y) : hg s y := by
  induction m generalizing s with
  | zero => cases h
  | succ m ih => exact f_X12_conjunction_L4_B_hg (n := n) (q4 := f_X12_conjunction_L4 n R0 R1 R2 R3 R4 R5 m) E0 E1 E2 E3 E4 E5 (fun s h => ih h) h
theorem f_X12_conjunction_S_hg {n : Nat} {R0 : hq_S → Option hq_S} {R1 : hq_S → Option hq_S} {R2 : hq_S → Option hq_S} {R3 : hq_S → Option hq_S} {R4 : hq_S → Option hq_S} {R5 : hq_S → Option hq_S} {s : hq_S} {y : hq_S} (E0 : ∀ (s : hq_S) (y : hq_S), R0 s = some y → hg s y) (E1 : ∀ (s : hq_S) (y : hq_S), R1 s = some y → hg s y) (E2 : ∀ (s : hq_S) (y : hq_S), R2 s = some y → hg s y) (E3 : ∀ (s : hq_S) (y : hq_S), R3 s = some y → hg s y) (E4 : ∀ (s : hq_S) (y : hq_S), R4 s = some y → hg s y) (E5 : ∀ (s : hq_S) (y : hq_S), R5 s = some y → hg s y) (h : f_X12_conjunction_S n R0 R1 R2 R3 R4 R5 s = some y) : hg s y := by
  unfold f_X12_conjunction_S at h
  have t := hg_rf s
  obtain ⟨s1, hs1, h⟩ := hq_bind h
  have t := hg_tr t (E2 _ _ hs1)
  exact hg_tr t (f_X12_conjunction_L4_hg E0 E1 E2 E3 E4 E5 h)
theorem f_X12_negation_J87_hg {n : Nat} {R0 : hq_S → Option hq_S} {R1 : hq_S → Option hq_S} {R2 : hq_S → Option hq_S} {R3 : hq_S → Option hq_S} {R4 : hq_S → Option hq_S} {R5 : hq_S → Option hq_S} {s : hq_S} {y : hq_S} (E0 : ∀ (s : hq_S) (y : hq_S), R0 s = some y → hg s y) (E1 : ∀ (s : hq_S) (y : hq_S), R1 s = some y → hg s y) (E2 : ∀ (s : hq_S) (y : hq_S), R2 s = some y → hg s y) (E3 : ∀ (s : hq_S) (y : hq_S), R3 s = some y → hg s y) (E4 : ∀ (s : hq_S) (y : hq_S), R4 s = some y → hg s y) (E5 : ∀ (s : hq_S) (y : hq_S), R5 s = some y → hg s y) (h : f_X12_negation_J87 n R0 R1 R2 R3 R4 R5 s = some y) : hg s y := by
  unfold f_X12_negation_J87 at h
  have t := hg_rf s
  obtain ⟨s7, hs7, h⟩ := hq_bind h
  have t := hg_tr t (hg_fw (by decide) (f_X12_knot_fw hs7))
  obtain ⟨s8, hs8, h⟩ := hq_bind h
  have t := hg_tr t (hg_fw (by decide) (f_X12_goOn_fw hs8))
  obtain ⟨s9, hs9, h⟩ := hq_bind h
  have t := hg_tr t (E3 _ _ hs9)
  obtain ⟨s10, hs10, h⟩ := hq_bind h
  have t := hg_tr t (hg_puts hs10)
  have h := Option.some.inj h
  subst h
  exact t
theorem f_X12_negation_S_hg {n : Nat} {R0 : hq_S → Option hq_S} {R1 : hq_S → Option hq_S} {R2 : hq_S → Option hq_S} {R3 : hq_S → Option hq_S} {R4 : hq_S → Option hq_S} {R5 : hq_S → Option hq_S} {s : hq_S} {y : hq_S} (E0 : ∀ (s : hq_S) (y : hq_S), R0 s = some y → hg s y) (E1 : ∀ (s : hq_S) (y : hq_S), R1 s = some y → hg s y) (E2 : ∀ (s : hq_S) (y : hq_S), R2 s = some y → hg s y) (E3 : ∀ (s : hq_S) (y : hq_S), R3 s = some y → hg s y) (E4 : ∀ (s : hq_S) (y : hq_S), R4 s = some y → hg s y) (E5 : ∀ (s : hq_S) (y : hq_S), R5 s = some y → hg s y) (h : f_X12_negation_S n R0 R1 R2 R3 R4 R5 s = some y) : hg s y := by
  unfold f_X12_negation_S at h
  have t := hg_rf s
  obtain ⟨y1, hy1, h⟩ := hq_bind h
  have t := hg_tr t (hg_fw (by decide) (f_X12_isWord_fw hy1))
  by_cases c2 : y1.1 = 0
  · rw [if_pos c2] at h
    obtain ⟨s3, hs3, h⟩ := hq_bind h
    have t := hg_tr t (E3 _ _ hs3)
    by_cases c4 : (hq_gi s3 174 28) = 0
    · rw [if_pos c4] at h
      by_cases c5 : (hq_gi s3 174 26) = (3 : Int32)
      · rw [if_pos c5] at h
        by_cases c6 : (hq_gi s3 174 27) = (60 : Int32)
        · rw [if_pos c6] at h
          exact hg_tr t (f_X12_negation_J87_hg E0 E1 E2 E3 E4 E5 h)
        · rw [if_neg c6] at h
          by_cases c11 : (hq_gi s3 174 27) = (62 : Int32)
          · rw [if_pos c11] at h
            exact hg_tr t (f_X12_negation_J87_hg E0 E1 E2 E3 E4 E5 h)
          · rw [if_neg c11] at h
            by_cases c12 : (hq_gi s3 174 27) = (61 : Int32)
            · rw [if_pos c12] at h
              exact hg_tr t (f_X12_negation_J87_hg E0 E1 E2 E3 E4 E5 h)
            · rw [if_neg c12] at h
              by_cases c13 : (hq_gi s3 174 27) < (256 : Int32)
              · rw [if_pos c13] at h
                have h := Option.some.inj h
                subst h
                exact t
              · rw [if_neg c13] at h
                exact hg_tr t (f_X12_negation_J87_hg E0 E1 E2 E3 E4 E5 h)
      · rw [if_neg c5] at h
        have h := Option.some.inj h
        subst h
        exact t
    · rw [if_neg c4] at h
      have h := Option.some.inj h
      subst h
      exact t
  · rw [if_neg c2] at h
    obtain ⟨s14, hs14, h⟩ := hq_bind h
    have t := hg_tr t (hg_fw (by decide) (f_X12_knot_fw hs14))
    obtain ⟨s15, hs15, h⟩ := hq_bind h
    have t := hg_tr t (hg_fw (by decide) (f_X12_goOn_fw hs15))
    obtain ⟨s16, hs16, h⟩ := hq_bind h
    have t := hg_tr t (E2 _ _ hs16)
    obtain ⟨s17, hs17, h⟩ := hq_bind h
    have t := hg_tr t (hg_puts hs17)
    have h := Option.some.inj h
    subst h
    exact t
theorem f_X12_sum_J22_hg {n : Nat} {R0 : hq_S → Option hq_S} {R1 : hq_S → Option hq_S} {R2 : hq_S → Option hq_S} {R3 : hq_S → Option hq_S} {R4 : hq_S → Option hq_S} {R5 : hq_S → Option hq_S} {q4 : hq_S → Option hq_S} {s : hq_S} {y : hq_S} (E0 : ∀ (s : hq_S) (y : hq_S), R0 s = some y → hg s y) (E1 : ∀ (s : hq_S) (y : hq_S), R1 s = some y → hg s y) (E2 : ∀ (s : hq_S) (y : hq_S), R2 s = some y → hg s y) (E3 : ∀ (s : hq_S) (y : hq_S), R3 s = some y → hg s y) (E4 : ∀ (s : hq_S) (y : hq_S), R4 s = some y → hg s y) (E5 : ∀ (s : hq_S) (y : hq_S), R5 s = some y → hg s y) (e4 : ∀ (o1 : Option Value) (s : hq_S), q4 s = some y → hg s y) (h : f_X12_sum_J22 n R0 R1 R2 R3 R4 R5 q4 s = some y) : hg s y := by
  unfold f_X12_sum_J22 at h
  have t := hg_rf s
  obtain ⟨s4, hs4, h⟩ := hq_bind h
  have t := hg_tr t (hg_fw (by decide) (f_X12_knot_fw hs4))
  obtain ⟨s5, hs5, h⟩ := hq_bind h
  have t := hg_tr t (hg_fw (by decide) (f_X12_goOn_fw hs5))
  obtain ⟨s6, hs6, h⟩ := hq_bind h
  have t := hg_tr t (E4 _ _ hs6)
  obtain ⟨s7, hs7, h⟩ := hq_bind h
  have t := hg_tr t (hg_puts hs7)
  exact hg_tr t (e4 none s7 h)
theorem f_X12_sum_L4_B_hg {n : Nat} {R0 : hq_S → Option hq_S} {R1 : hq_S → Option hq_S} {R2 : hq_S → Option hq_S} {R3 : hq_S → Option hq_S} {R4 : hq_S → Option hq_S} {R5 : hq_S → Option hq_S} {q4 : hq_S → Option hq_S} {s : hq_S} {y : hq_S} (E0 : ∀ (s : hq_S) (y : hq_S), R0 s = some y → hg s y) (E1 : ∀ (s : hq_S) (y : hq_S), R1 s = some y → hg s y) (E2 : ∀ (s : hq_S) (y : hq_S), R2 s = some y → hg s y) (E3 : ∀ (s : hq_S) (y : hq_S), R3 s = some y → hg s y) (E4 : ∀ (s : hq_S) (y : hq_S), R4 s = some y → hg s y) (E5 : ∀ (s : hq_S) (y : hq_S), R5 s = some y → hg s y) (e4 : ∀ (o1 : Option Value) (s : hq_S), q4 s = some y → hg s y) (h : f_X12_sum_L4_B n R0 R1 R2 R3 R4 R5 q4 s = some y) : hg s y := by
  unfold f_X12_sum_L4_B at h
  have t := hg_rf s
  obtain ⟨y2, hy2, h⟩ := hq_bind h
  have t := hg_tr t (hg_fw (by decide) (f_X12_isSign_fw hy2))
  by_cases c3 : y2.1 = 0
  · rw [if_pos c3] at h
    obtain ⟨y8, hy8, h⟩ := hq_bind h
    have t := hg_tr t (hg_fw (by decide) (f_X12_isSign_fw hy8))
    by_cases c9 : y8.1 = 0
    · rw [if_pos c9] at h
      have h := Option.some.inj h
      subst h
      exact t
    · rw [if_neg c9] at h
      exact hg_tr t (f_X12_sum_J22_hg E0 E1 E2 E3 E4 E5 e4 h)
  · rw [if_neg c3] at h
    exact hg_tr t (f_X12_sum_J22_hg E0 E1 E2 E3 E4 E5 e4 h)
theorem f_X12_sum_L4_hg {n m : Nat} {R0 : hq_S → Option hq_S} {R1 : hq_S → Option hq_S} {R2 : hq_S → Option hq_S} {R3 : hq_S → Option hq_S} {R4 : hq_S → Option hq_S} {R5 : hq_S → Option hq_S} {s : hq_S} {y : hq_S} (E0 : ∀ (s : hq_S) (y : hq_S), R0 s = some y → hg s y) (E1 : ∀ (s : hq_S) (y : hq_S), R1 s = some y → hg s y) (E2 : ∀ (s : hq_S) (y : hq_S), R2 s = some y → hg s y) (E3 : ∀ (s : hq_S) (y : hq_S), R3 s = some y → hg s y) (E4 : ∀ (s : hq_S) (y : hq_S), R4 s = some y → hg s y) (E5 : ∀ (s : hq_S) (y : hq_S), R5 s = some y → hg s y) (h : f_X12_sum_L4 n R0 R1 R2 R3 R4 R5 m s = some y) : hg s y := by
  induction m generalizing s with
  | zero => cases h
  | succ m ih => exact f_X12_sum_L4_B_hg (n := n) (q4 := f_X12_sum_L4 n R0 R1 R2 R3 R4 R5 m) E0 E1 E2 E3 E4 E5 (fun _ s h => ih h) h
theorem f_X12_sum_S_hg {n : Nat} {R0 : hq_S → Option hq_S} {R1 : hq_S → Option hq_S} {R2 : hq_S → Option hq_S} {R3 : hq_S → Option hq_S} {R4 : hq_S → Option hq_S} {R5 : hq_S → Option hq_S} {s : hq_S} {y : hq_S} (E0 : ∀ (s : hq_S) (y : hq_S), R0 s = some y → hg s y) (E1 : ∀ (s : hq_S) (y : hq_S), R1 s = some y → hg s y) (E2 : ∀ (s : hq_S) (y : hq_S), R2 s = some y → hg s y) (E3 : ∀ (s : hq_S) (y : hq_S), R3 s = some y → hg s y) (E4 : ∀ (s : hq_S) (y : hq_S), R4 s = some y → hg s y) (E5 : ∀ (s : hq_S) (y : hq_S), R5 s = some y → hg s y) (h : f_X12_sum_S n R0 R1 R2 R3 R4 R5 s = some y) : hg s y := by
  unfold f_X12_sum_S at h
  have t := hg_rf s
  obtain ⟨s1, hs1, h⟩ := hq_bind h
  have t := hg_tr t (E4 _ _ hs1)
  exact hg_tr t (f_X12_sum_L4_hg E0 E1 E2 E3 E4 E5 h)
theorem f_X12_product_J22_hg {n : Nat} {R0 : hq_S → Option hq_S} {R1 : hq_S → Option hq_S} {R2 : hq_S → Option hq_S} {R3 : hq_S → Option hq_S} {R4 : hq_S → Option hq_S} {R5 : hq_S → Option hq_S} {q4 : hq_S → Option hq_S} {s : hq_S} {y : hq_S} (E0 : ∀ (s : hq_S) (y : hq_S), R0 s = some y → hg s y) (E1 : ∀ (s : hq_S) (y : hq_S), R1 s = some y → hg s y) (E2 : ∀ (s : hq_S) (y : hq_S), R2 s = some y → hg s y) (E3 : ∀ (s : hq_S) (y : hq_S), R3 s = some y → hg s y) (E4 : ∀ (s : hq_S) (y : hq_S), R4 s = some y → hg s y) (E5 : ∀ (s : hq_S) (y : hq_S), R5 s = some y → hg s y) (e4 : ∀ (o1 : Option Value) (s : hq_S), q4 s = some y → hg s y) (h : f_X12_product_J22 n R0 R1 R2 R3 R4 R5 q4 s = some y) : hg s y := by
  unfold f_X12_product_J22 at h
  have t := hg_rf s
  obtain ⟨s4, hs4, h⟩ := hq_bind h
  have t := hg_tr t (hg_fw (by decide) (f_X12_knot_fw hs4))
  obtain ⟨s5, hs5, h⟩ := hq_bind h
  have t := hg_tr t (hg_fw (by decide) (f_X12_goOn_fw hs5))
  obtain ⟨s6, hs6, h⟩ := hq_bind h
  have t := hg_tr t (E5 _ _ hs6)
  obtain ⟨s7, hs7, h⟩ := hq_bind h
  have t := hg_tr t (hg_puts hs7)
  exact hg_tr t (e4 none s7 h)
theorem f_X12_product_L4_B_hg {n : Nat} {R0 : hq_S → Option hq_S} {R1 : hq_S → Option hq_S} {R2 : hq_S → Option hq_S} {R3 : hq_S → Option hq_S} {R4 : hq_S → Option hq_S} {R5 : hq_S → Option hq_S} {q4 : hq_S → Option hq_S} {s : hq_S} {y : hq_S} (E0 : ∀ (s : hq_S) (y : hq_S), R0 s = some y → hg s y) (E1 : ∀ (s : hq_S) (y : hq_S), R1 s = some y → hg s y) (E2 : ∀ (s : hq_S) (y : hq_S), R2 s = some y → hg s y) (E3 : ∀ (s : hq_S) (y : hq_S), R3 s = some y → hg s y) (E4 : ∀ (s : hq_S) (y : hq_S), R4 s = some y → hg s y) (E5 : ∀ (s : hq_S) (y : hq_S), R5 s = some y → hg s y) (e4 : ∀ (o1 : Option Value) (s : hq_S), q4 s = some y → hg s y) (h : f_X12_product_L4_B n R0 R1 R2 R3 R4 R5 q4 s = some y) : hg s y := by
  unfold f_X12_product_L4_B at h
  have t := hg_rf s
  obtain ⟨y2, hy2, h⟩ := hq_bind h
  have t := hg_tr t (hg_fw (by decide) (f_X12_isSign_fw hy2))
  by_cases c3 : y2.1 = 0
  · rw [if_pos c3] at h
    obtain ⟨y8, hy8, h⟩ := hq_bind h
    have t := hg_tr t (hg_fw (by decide) (f_X12_isSign_fw hy8))
    by_cases c9 : y8.1 = 0
    · rw [if_pos c9] at h
      have h := Option.some.inj h
      subst h
      exact t
    · rw [if_neg c9] at h
      exact hg_tr t (f_X12_product_J22_hg E0 E1 E2 E3 E4 E5 e4 h)
  · rw [if_neg c3] at h
    exact hg_tr t (f_X12_product_J22_hg E0 E1 E2 E3 E4 E5 e4 h)
theorem f_X12_product_L4_hg {n m : Nat} {R0 : hq_S → Option hq_S} {R1 : hq_S → Option hq_S} {R2 : hq_S → Option hq_S} {R3 : hq_S → Option hq_S} {R4 : hq_S → Option hq_S} {R5 : hq_S → Option hq_S} {s : hq_S} {y : hq_S} (E0 : ∀ (s : hq_S) (y : hq_S), R0 s = some y → hg s y) (E1 : ∀ (s : hq_S) (y : hq_S), R1 s = some y → hg s y) (E2 : ∀ (s : hq_S) (y : hq_S), R2 s = some y → hg s y) (E3 : ∀ (s : hq_S) (y : hq_S), R3 s = some y → hg s y) (E4 : ∀ (s : hq_S) (y : hq_S), R4 s = some y → hg s y) (E5 : ∀ (s : hq_S) (y : hq_S), R5 s = some y → hg s y) (h : f_X12_product_L4 n R0 R1 R2 R3 R4 R5 m s = some y) : hg s y := by
  induction m generalizing s with
  | zero => cases h
  | succ m ih => exact f_X12_product_L4_B_hg (n := n) (q4 := f_X12_product_L4 n R0 R1 R2 R3 R4 R5 m) E0 E1 E2 E3 E4 E5 (fun _ s h => ih h) h
theorem f_X12_product_S_hg {n : Nat} {R0 : hq_S → Option hq_S} {R1 : hq_S → Option hq_S} {R2 : hq_S → Option hq_S} {R3 : hq_S → Option hq_S} {R4 : hq_S → Option hq_S} {R5 : hq_S → Option hq_S} {s : hq_S} {y : hq_S} (E0 : ∀ (s : hq_S) (y : hq_S), R0 s = some y → hg s y) (E1 : ∀ (s : hq_S) (y : hq_S), R1 s = some y → hg s y) (E2 : ∀ (s : hq_S) (y : hq_S), R2 s = some y → hg s y) (E3 : ∀ (s : hq_S) (y : hq_S), R3 s = some y → hg s y) (E4 : ∀ (s : hq_S) (y : hq_S), R4 s = some y → hg s y) (E5 : ∀ (s : hq_S) (y : hq_S), R5 s = some y → hg s y) (h : f_X12_product_S n R0 R1 R2 R3 R4 R5 s = some y) : hg s y := by
  unfold f_X12_product_S at h
  have t := hg_rf s
  obtain ⟨s1, hs1, h⟩ := hq_bind h
  have t := hg_tr t (E5 _ _ hs1)
  exact hg_tr t (f_X12_product_L4_hg E0 E1 E2 E3 E4 E5 h)
theorem f_X12_primary_S_hg {n : Nat} {R0 : hq_S → Option hq_S} {R1 : hq_S → Option hq_S} {R2 : hq_S → Option hq_S} {R3 : hq_S → Option hq_S} {R4 : hq_S → Option hq_S} {R5 : hq_S → Option hq_S} {s : hq_S} {y : hq_S} (E0 : ∀ (s : hq_S) (y : hq_S), R0 s = some y → hg s y) (E1 : ∀ (s : hq_S) (y : hq_S), R1 s = some y → hg s y) (E2 : ∀ (s : hq_S) (y : hq_S), R2 s = some y → hg s y) (E3 : ∀ (s : hq_S) (y : hq_S), R3 s = some y → hg s y) (E4 : ∀ (s : hq_S) (y : hq_S), R4 s = some y → hg s y) (E5 : ∀ (s : hq_S) (y : hq_S), R5 s = some y → hg s y) (h : f_X12_primary_S n R0 R1 R2 R3 R4 R5 s = some y) : hg s y := by
  unfold f_X12_primary_S at h
  have t := hg_rf s
  by_cases c1 : (hq_gi s 174 28) = 0
  · rw [if_pos c1] at h
    obtain ⟨y2, hy2, h⟩ := hq_bind h
    have t := hg_tr t (hg_fw (by decide) (f_X12_isSign_fw hy2))
    by_cases c3 : y2.1 = 0
    · rw [if_pos c3] at h
      obtain ⟨z4, hz4, h⟩ := hq_bind h
      obtain ⟨z6, hz6, h⟩ := hq_bind h
      have t : hg s z6 := by
        clear h
        have h := hz6
        by_cases c7 : z4 = 0
        · rw [if_pos c7] at h
          by_cases c8 : z4 = 0
          · rw [if_pos c8] at h
            by_cases c9 : (hq_gi y2.2 174 26) = 0
            · rw [if_pos c9] at h
              by_cases c11 : (hq_gi y2.2 174 27) < (15 : Int32)
              · rw [if_pos c11] at h
                obtain ⟨s12, hs12, h⟩ := hq_bind h
                have t := hg_tr t (hg_fw (by decide) (f_X12_wrong_fw hs12))
                cases h
                exact t
              · rw [if_neg c11] at h
                cases h
                exact t
            · rw [if_neg c9] at h
              obtain ⟨s10, hs10, h⟩ := hq_bind h
              have t := hg_tr t (hg_fw (by decide) (f_X12_wrong_fw hs10))
              cases h
              exact t
          · rw [if_neg c8] at h
            cases h
            exact t
        · rw [if_neg c7] at h
          by_cases c13 : (9999 : Int32) < (hq_gi y2.2 174 27)
          · rw [if_pos c13] at h
            obtain ⟨s19, hs19, h⟩ := hq_bind h
            have t := hg_tr t (hg_fw (by decide) (f_X12_wrong_fw hs19))
            cases h
            exact t
          · rw [if_neg c13] at h
            by_cases c14 : z4 = 0
            · rw [if_pos c14] at h
              by_cases c15 : (hq_gi y2.2 174 26) = 0
              · rw [if_pos c15] at h
                by_cases c17 : (hq_gi y2.2 174 27) < (15 : Int32)
                · rw [if_pos c17] at h
                  obtain ⟨s18, hs18, h⟩ := hq_bind h
                  have t := hg_tr t (hg_fw (by decide) (f_X12_wrong_fw hs18))
                  cases h
                  exact t
                · rw [if_neg c17] at h
                  cases h
                  exact t
              · rw [if_neg c15] at h
                obtain ⟨s16, hs16, h⟩ := hq_bind h
                have t := hg_tr t (hg_fw (by decide) (f_X12_wrong_fw hs16))
                cases h
                exact t
            · rw [if_neg c14] at h
              cases h
              exact t
      obtain ⟨s20, hs20, h⟩ := hq_bind h
      have t := hg_tr t (hg_fw (by decide) (f_X12_knot_fw hs20))
      obtain ⟨z21, hz21, h⟩ := hq_bind h
      obtain ⟨z23, hz23, h⟩ := hq_bind h
      obtain ⟨s25, hs25, h⟩ := hq_bind h
      have t := hg_tr t (hg_puts hs25)
      obtain ⟨s26, hs26, h⟩ := hq_bind h
      have t := hg_tr t (hg_fw (by decide) (f_X12_goOn_fw hs26))
      have h := Option.some.inj h
      subst h
      exact t
    · rw [if_neg c3] at h
      obtain ⟨z27, hz27, h⟩ := hq_bind h
      have t : hg s z27 := by
        clear h
        have h := hz27
        by_cases c28 : (hq_gi y2.2 174 32) = (8 : Int32)
        · rw [if_pos c28] at h
          obtain ⟨s29, hs29, h⟩ := hq_bind h
          have t := hg_tr t (hg_fw (by decide) (f_X12_wrong_fw hs29))
          cases h
          exact t
        · rw [if_neg c28] at h
          cases h
          exact t
      by_cases c30 : (hq_gi z27 174 28) = 0
      · rw [if_pos c30] at h
        obtain ⟨s31, hs31, h⟩ := hq_bind h
        have t := hg_tr t (hg_pi hs31 (by decide))
        obtain ⟨s32, hs32, h⟩ := hq_bind h
        have t := hg_tr t (hg_fw (by decide) (f_X12_token_fw hs32))
        obtain ⟨s33, hs33, h⟩ := hq_bind h
        have t := hg_tr t (E0 _ _ hs33)
        obtain ⟨z34, hz34, h⟩ := hq_bind h
        have t : hg s z34 := by
          clear h
          have h := hz34
          by_cases c35 : (hq_gi s33 174 28) = 0
          · rw [if_pos c35] at h
            obtain ⟨y36, hy36, h⟩ := hq_bind h
            have t := hg_tr t (hg_fw (by decide) (f_X12_isSign_fw hy36))
            by_cases c37 : y36.1 = 0
            · rw [if_pos c37] at h
              obtain ⟨s38, hs38, h⟩ := hq_bind h
              have t := hg_tr t (hg_fw (by decide) (f_X12_wrong_fw hs38))
              cases h
              exact t
            · rw [if_neg c37] at h
              cases h
              exact t
          · rw [if_neg c35] at h
            cases h
            exact t
        by_cases c39 : (hq_gi z34 174 28) = 0
        · rw [if_pos c39] at h
          obtain ⟨s40, hs40, h⟩ := hq_bind h
          have t := hg_tr t (hg_pi hs40 (by decide))
          obtain ⟨s41, hs41, h⟩ := hq_bind h
          have t := hg_tr t (hg_fw (by decide) (f_X12_token_fw hs41))
          have h := Option.some.inj h
          subst h
          exact t
        · rw [if_neg c39] at h
          have h := Option.some.inj h
          subst h
          exact t
      · rw [if_neg c30] at h
        have h := Option.some.inj h
        subst h
        exact t
  · rw [if_neg c1] at h
    have h := Option.some.inj h
    subst h
    exact t
theorem f_X12_expression_G_hg {n : Nat} : ∀ k : Nat, (∀ (s : hq_S) (y : hq_S), f_X12_expression_G n k 0 s = some y → hg s y) ∧ (∀ (s : hq_S) (y : hq_S), f_X12_expression_G n k 1 s = some y → hg s y) ∧ (∀ (s : hq_S) (y : hq_S), f_X12_expression_G n k 2 s = some y → hg s y) ∧ (∀ (s : hq_S) (y : hq_S), f_X12_expression_G n k 3 s = some y → hg s y) ∧ (∀ (s : hq_S) (y : hq_S), f_X12_expression_G n k 4 s = some y → hg s y) ∧ (∀ (s : hq_S) (y : hq_S), f_X12_expression_G n k 5 s = some y → hg s y) := by
  intro k
  induction k with
  | zero =>
    refine ⟨?_, ?_, ?_, ?_, ?_, ?_⟩
    all_goals
      intros
      next h => cases h
  | succ k ih =>
    obtain ⟨I0, I1, I2, I3, I4, I5⟩ := ih
    refine ⟨?_, ?_, ?_, ?_, ?_, ?_⟩
    · intro s y h
      exact f_X12_expression_S_hg I0 I1 I2 I3 I4 I5 h
    · intro s y h
      exact f_X12_conjunction_S_hg I0 I1 I2 I3 I4 I5 h
    · intro s y h
      exact f_X12_negation_S_hg I0 I1 I2 I3 I4 I5 h
    · intro s y h
      exact f_X12_sum_S_hg I0 I1 I2 I3 I4 I5 h
    · intro s y h
      exact f_X12_product_S_hg I0 I1 I2 I3 I4 I5 h
    · intro s y h
      exact f_X12_primary_S_hg I0 I1 I2 I3 I4 I5 h
theorem f_X12_expression_hg {n : Nat} {s : hq_S} {y : hq_S} (h : f_X12_expression n s = some y) : hg s y := (f_X12_expression_G_hg 200).1 s y h
