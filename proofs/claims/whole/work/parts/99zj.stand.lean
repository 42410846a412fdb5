/-! WHAT STANDS: facts struck out by later ones that stand -/
def sd (li : Nat → Option Nat) (K : Nat) : Nat → Nat × Nat
  | 0 => (0, 0)
  | p + 1 => if (sd li K p).1.testBit (K - 1 - p) = true then sd li K p else match li (K - 1 - p) with
    | none => ((sd li K p).1, (sd li K p).2 ||| 2 ^ (K - 1 - p))
    | some j => ((sd li K p).1 ||| 2 ^ j, (sd li K p).2)
/-- the links of the first K facts, in the array c -/
def sd_L (K : Nat) (li : Nat → Option Nat) (c : Nat) (s : hq_S) : Prop := ∀ i, i < K → (li i = none ∧ hq_gi s c i = -1) ∨ ∃ j, j < i ∧ li i = some j ∧ hq_gi s c i = Int32.ofNat j
def sd_K (K : Nat) (s : hq_S) : Prop := (hq_gi s 174 75 = -1 ∧ hq_gi s 174 74 = Int32.ofNat K) ∨ (¬ hq_gi s 174 75 = -1 ∧ hq_gi s 174 75 = Int32.ofNat K)
section
variable {N K c : Nat} {li : Nat → Option Nat} {s : hq_S}
theorem sd_lt (hK : K ≤ 24) (X : sd_L K li c s) : ∀ p, p ≤ K → (sd li K p).1 < 2 ^ 24 ∧ (sd li K p).2 < 2 ^ 24 := by
  intro p
  induction p with
  | zero => intro _; exact ⟨(by decide : 0 < 2 ^ 24), (by decide : 0 < 2 ^ 24)⟩
  | succ p ih =>
    intro hp
    obtain ⟨h1, h2⟩ := ih (by omega)
    rw [sd]
    by_cases q : (sd li K p).1.testBit (K - 1 - p) = true
    · rw [if_pos q]; exact ⟨h1, h2⟩
    · rw [if_neg q]
      rcases X (K - 1 - p) (by omega) with ⟨e, -⟩ | ⟨j, hj, e, -⟩
      · rw [e]; exact ⟨h1, nb_lt_or h2 (nb_2lt (by omega))⟩
      · rw [e]; exact ⟨nb_lt_or h1 (nb_2lt (by omega)), h2⟩
/-- what stands: not struck out, and no strike -/
theorem sd_t (X : sd_L K li c s) : ∀ p, p ≤ K → ∀ i, (sd li K p).2.testBit i = true ↔ (K - p ≤ i ∧ i < K ∧ (sd li K p).1.testBit i = false ∧ li i = none) := by
  intro p
  induction p with
  | zero => intro _ i; rw [sd, Nat.zero_testBit]; exact ⟨fun h => (by cases h), fun h => by omega⟩
  | succ p ih =>
    intro hp i
    have ih := ih (by omega) i
    rw [sd]
    by_cases q : (sd li K p).1.testBit (K - 1 - p) = true
    · rw [if_pos q, ih]
      constructor
      · rintro ⟨h1, h2, h3, h4⟩; exact ⟨by omega, h2, h3, h4⟩
      · rintro ⟨h1, h2, h3, h4⟩
        refine ⟨?_, h2, h3, h4⟩
        by_cases e : i = K - 1 - p
        · rw [e, q] at h3; cases h3
        · omega
    · rw [if_neg q]
      have q : (sd li K p).1.testBit (K - 1 - p) = false := by cases h : (sd li K p).1.testBit (K - 1 - p) with | true => exact absurd h q | false => rfl
      rcases X (K - 1 - p) (by omega) with ⟨e, -⟩ | ⟨j, hj, e, -⟩
      · rw [e]
        show ((sd li K p).2 ||| 2 ^ (K - 1 - p)).testBit i = true ↔ (K - (p + 1) ≤ i ∧ i < K ∧ (sd li K p).1.testBit i = false ∧ li i = none)
        rw [Nat.testBit_or, Bool.or_eq_true, ih, nb_2p]
        constructor
        · rintro (⟨h1, h2, h3, h4⟩ | h)
          · exact ⟨by omega, h2, h3, h4⟩
          · have h : K - 1 - p = i := of_decide_eq_true h
            rw [← h]; exact ⟨by omega, by omega, q, e⟩
        · rintro ⟨h1, h2, h3, h4⟩
          by_cases e : K - 1 - p = i
          · exact Or.inr (decide_eq_true e)
          · exact Or.inl ⟨by omega, h2, h3, h4⟩
      · rw [e]
        show (sd li K p).2.testBit i = true ↔ (K - (p + 1) ≤ i ∧ i < K ∧ ((sd li K p).1 ||| 2 ^ j).testBit i = false ∧ li i = none)
        rw [ih, Nat.testBit_or, Bool.or_eq_false_iff, nb_2p]
        constructor
        · rintro ⟨h1, h2, h3, h4⟩; exact ⟨by omega, h2, ⟨h3, decide_eq_false (by omega)⟩, h4⟩
        · rintro ⟨h1, h2, ⟨h3, -⟩, h4⟩
          refine ⟨?_, h2, h3, h4⟩
          by_cases e2 : i = K - 1 - p
          · rw [e2, e] at h4; cases h4
          · omega
theorem sd_dec (m : Nat) : Int32.ofNat m + Int32.ofInt (-1) = Int32.ofNat m - 1 := by
  cases m with
  | zero => decide
  | succ m => rw [nb_dec, nn_pred]
/-- the class's -/
theorem sd_11 (hK : K ≤ 24) (X : sd_L K li 168 s) : ∀ (q p m : Nat), p + q = K → q < m → f_X2_standing_L11 N m (Int32.ofNat (sd li K p).1) (Int32.ofNat (sd li K p).2) (Int32.ofNat q - 1) s = some (Int32.ofNat (sd li K K).2, s) := by
  intro q
  induction q with
  | zero =>
    intro p m hp hm
    obtain ⟨m, rfl⟩ : ∃ k, m = k + 1 := ⟨m - 1, by omega⟩
    have hp : p = K := by omega
    subst hp
    have cc : Int32.ofNat 0 - 1 < (0 : Int32) := by decide
    simp only [f_X2_standing_L11_s, f_X2_standing_L11_B, if_pos cc]
  | succ q ih =>
    intro p m hp hm
    obtain ⟨m, rfl⟩ : ∃ k, m = k + 1 := ⟨m - 1, by omega⟩
    have eq : K - 1 - p = q := by omega
    have h := ih (p + 1) m (by omega) (by omega)
    have b := sd_lt hK X p (by omega)
    have nq : ¬ Int32.ofNat q < 0 := nn_nlt0 (by omega)
    have b1 := nb_bit1 (show (sd li K p).1 < 2147483648 by omega) (show q < 32 by omega)
    have ld : hq_ld s 168 24 (Int32.ofNat q) = some (hq_gi s 168 q) := nn_ld (by omega) (by omega)
    rw [← h, nn_pred, sd, eq]
    by_cases q1 : (sd li K p).1.testBit q = true
    · simp only [f_X2_standing_L11_s, f_X2_standing_L11_B, if_neg nq, b1, if_pos q1, Option.bind_some, sd_dec]
    · rcases X q (by omega) with ⟨e, e1⟩ | ⟨j, hj, e, e1⟩
      · simp only [f_X2_standing_L11_s, f_X2_standing_L11_B, if_neg nq, b1, if_neg q1, Option.bind_some, ld, e1, if_true, e, nb_one (show q < 32 by omega), nb_or, sd_dec]
      · have nj : ¬ Int32.ofNat j = -1 := fun z => nn_nlt0 (a := j) (by omega) (by rw [z]; decide)
        simp only [f_X2_standing_L11_s, f_X2_standing_L11_B, if_neg nq, b1, if_neg q1, Option.bind_some, ld, e1, if_neg nj, e, nb_one (show j < 32 by omega), nb_or, sd_dec]
theorem sd_km (h : sd_K K s) : f_X12_knownMany N s = some (Int32.ofNat K, s) := by
  rcases h with ⟨h1, h2⟩ | ⟨h1, h2⟩
  · simp only [f_X12_knownMany, h1, if_true, h2]
  · rw [h2] at h1
    simp only [f_X12_knownMany, h2, if_neg h1]
theorem sd_K_w {s' : hq_S} (e : ∀ i, hq_gi s' 174 i = hq_gi s 174 i) (h : sd_K K s) : sd_K K s' := by
  unfold sd_K at h ⊢
  rw [e, e]; exact h
/-- the reference's -/
theorem sd_32 {a1 a2 : Int32} (hK : K ≤ 24) : ∀ (q p m : Nat) (s : hq_S), p + q = K → q < m → sd_L K li 228 s → (∀ i, i < K → hq_gi s 229 i = if (sd li K p).1.testBit i = true then 1 else 0) → ∃ s', f_X12_boldsOf_L32 N m a1 a2 (Int32.ofNat q - 1) s = f_X12_boldsOf_L75 N N a1 a2 0 s' ∧ (∀ i, i < K → hq_gi s' 229 i = if (sd li K K).1.testBit i = true then 1 else 0) ∧ ∀ c i, ¬ c = 229 → hq_gi s' c i = hq_gi s c i := by
  intro q
  induction q with
  | zero =>
    intro p m s hp hm X Y
    obtain ⟨m, rfl⟩ : ∃ k, m = k + 1 := ⟨m - 1, by omega⟩
    have hp : p = K := by omega
    subst hp
    have cc : Int32.ofNat 0 - 1 < (0 : Int32) := by decide
    exact ⟨s, by simp only [f_X12_boldsOf_L32_s, f_X12_boldsOf_L32_B, if_pos cc], Y, fun _ _ _ => rfl⟩
  | succ q ih =>
    intro p m s hp hm X Y
    obtain ⟨m, rfl⟩ : ∃ k, m = k + 1 := ⟨m - 1, by omega⟩
    have eq : K - 1 - p = q := by omega
    have nq : ¬ Int32.ofNat q < 0 := nn_nlt0 (by omega)
    have l1 : hq_ld s 229 24 (Int32.ofNat q) = some (hq_gi s 229 q) := nn_ld (by omega) (by omega)
    have l2 : hq_ld s 228 24 (Int32.ofNat q) = some (hq_gi s 228 q) := nn_ld (by omega) (by omega)
    have d10 : ¬ (1 : Int32) = 0 := by decide
    have nx : sd li K (p + 1) = if (sd li K p).1.testBit q = true then sd li K p else match li q with
      | none => ((sd li K p).1, (sd li K p).2 ||| 2 ^ q)
      | some j => ((sd li K p).1 ||| 2 ^ j, (sd li K p).2) := by rw [sd, eq]
    rw [nn_pred]
    by_cases q1 : (sd li K p).1.testBit q = true
    · have y := Y q (by omega)
      rw [if_pos q1] at y nx
      obtain ⟨s', e⟩ := ih (p + 1) m s (by omega) (by omega) X (by rw [nx]; exact Y)
      refine ⟨s', ?_, e.2⟩
      rw [← e.1]
      simp only [f_X12_boldsOf_L32_s, f_X12_boldsOf_L32_B, if_neg nq, l1, y, Option.bind_some, if_neg d10, sd_dec]
    · have y := Y q (by omega)
      rw [if_neg q1] at y nx
      rcases X q (by omega) with ⟨e0, e1⟩ | ⟨j, hj, e0, e1⟩
      · rw [e0] at nx
        obtain ⟨s', e⟩ := ih (p + 1) m s (by omega) (by omega) X (by rw [nx]; exact Y)
        refine ⟨s', ?_, e.2⟩
        rw [← e.1]
        simp only [f_X12_boldsOf_L32_s, f_X12_boldsOf_L32_B, if_neg nq, l1, y, Option.bind_some, if_true, l2, e1, sd_dec]
      · rw [e0] at nx
        have nj : ¬ Int32.ofNat j = -1 := fun z => nn_nlt0 (a := j) (by omega) (by rw [z]; decide)
        have n1 : hq_nar .boolean (1 : Int32) = 1 := by decide
        have st : hq_st s 229 24 (Int32.ofNat j) 1 = some (hq_si s 229 j 1) := nn_st (by omega) (by omega)
        obtain ⟨s', f1, f2, f3⟩ := ih (p + 1) m (hq_si s 229 j 1) (by omega) (by omega) (fun i hi => by rw [nb_ii, if_neg (fun z => by omega)]; exact X i hi) (fun i hi => by
          rw [nx, nb_ii]
          show _ = if ((sd li K p).1 ||| 2 ^ j).testBit i = true then 1 else 0
          rw [Nat.testBit_or, nb_2p, Y i hi]
          by_cases e : i = j
          · rw [if_pos ⟨rfl, e⟩, decide_eq_true e.symm, Bool.or_true, if_pos rfl]
          · rw [if_neg (fun z => e z.2), decide_eq_false (fun z => e z.symm), Bool.or_false])
        refine ⟨s', ?_, f2, fun c i hc => by rw [f3 c i hc, nb_ii, if_neg (fun z => hc z.1)]⟩
        rw [← f1]
        simp only [f_X12_boldsOf_L32_s, f_X12_boldsOf_L32_B, if_neg nq, l1, y, Option.bind_some, if_true, l2, e1, if_neg nj, n1, st, sd_dec]
theorem sd_4 {a1 a2 : Int32} (hN : 30 < N) (hK : K ≤ 24) : ∀ (q j m : Nat) (s : hq_S), j + q = K → q < m → sd_K K s → sd_L K li 228 s → (∀ i, i < j → hq_gi s 229 i = 0) → ∃ s', f_X12_boldsOf_L4 N m a1 a2 (Int32.ofNat j) s = f_X12_boldsOf_L75 N N a1 a2 0 s' ∧ (∀ i, i < K → hq_gi s' 229 i = if (sd li K K).1.testBit i = true then 1 else 0) ∧ ∀ c i, ¬ c = 229 → hq_gi s' c i = hq_gi s c i := by
  intro q
  induction q with
  | zero =>
    intro j m s hj hm H X Y
    obtain ⟨m, rfl⟩ : ∃ k, m = k + 1 := ⟨m - 1, by omega⟩
    have hj : j = K := by omega
    subst hj
    have km := sd_km (N := N) H
    have cc : ¬ Int32.ofNat j < Int32.ofNat j := by rw [nn_lt (by omega) (by omega)]; omega
    obtain ⟨s', e⟩ := sd_32 (N := N) (a1 := a1) (a2 := a2) hK j 0 N s (by omega) (by omega) X (fun i hi => by rw [sd, Nat.zero_testBit, if_neg (by decide)]; exact Y i hi)
    refine ⟨s', ?_, e.2⟩
    rw [← e.1]
    simp only [f_X12_boldsOf_L4_s, f_X12_boldsOf_L4_B, km, Option.bind_some, if_neg cc]
  | succ q ih =>
    intro j m s hj hm H X Y
    obtain ⟨m, rfl⟩ : ∃ k, m = k + 1 := ⟨m - 1, by omega⟩
    have km := sd_km (N := N) H
    have cc : Int32.ofNat j < Int32.ofNat K := (nn_lt (by omega) (by omega)).mpr (by omega)
    have n0 : hq_nar .boolean (0 : Int32) = 0 := by decide
    have st : hq_st s 229 24 (Int32.ofNat j) 0 = some (hq_si s 229 j 0) := nn_st (by omega) (by omega)
    obtain ⟨s', f1, f2, f3⟩ := ih (j + 1) m (hq_si s 229 j 0) (by omega) (by omega) (sd_K_w (fun i => by rw [nb_ii, if_neg (fun z => by omega)]) H) (fun i hi => by rw [nb_ii, if_neg (fun z => by omega)]; exact X i hi) (fun i hi => by
      rw [nb_ii]
      by_cases e : i = j
      · rw [if_pos ⟨rfl, e⟩]
      · rw [if_neg (fun z => e z.2)]; exact Y i (by omega))
    refine ⟨s', ?_, f2, fun c i hc => by rw [f3 c i hc, nb_ii, if_neg (fun z => hc z.1)]⟩
    rw [← f1]
    simp only [f_X12_boldsOf_L4_s, f_X12_boldsOf_L4_B, km, Option.bind_some, if_pos cc, n0, st, nn_succ]
end
