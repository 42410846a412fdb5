/-! THE CHASE: rows of guards as numbers -/
def enc (n : Nat) (p : Nat → Nat) : Nat → Nat
  | 0 => 0
  | g + 1 => enc n p g * n + p g
def dgs (n : Nat) : Nat → Nat → Nat → Nat
  | 0, _, _ => 0
  | g + 1, r, j => if j = g then r % n else dgs n g (r / n) j
def pud (p : Nat → Nat) (i v : Nat) : Nat → Nat := fun j => if j = i then v else p j
section
variable {n g : Nat} {p q : Nat → Nat}
theorem enc_cg : ∀ g, (∀ j, j < g → p j = q j) → enc n p g = enc n q g
  | 0, _ => rfl
  | g + 1, h => by rw [enc, enc, enc_cg g (fun j hj => h j (by omega)), h g (by omega)]
theorem enc_lt : ∀ g, (∀ j, j < g → p j < n) → enc n p g < n ^ g
  | 0, _ => by rw [enc]; exact Nat.one_pos
  | g + 1, h => by
    have ih := enc_lt g (fun j hj => h j (by omega))
    have hg := h g (by omega)
    rw [enc, Nat.pow_succ]
    have h2 : (enc n p g + 1) * n ≤ n ^ g * n := Nat.mul_le_mul_right n ih
    rw [Nat.add_mul] at h2
    omega
theorem dgs_lt (hn : 0 < n) : ∀ g r j, j < g → dgs n g r j < n
  | 0, _, _, h => by omega
  | g + 1, r, j, h => by
    rw [dgs]
    split
    · exact Nat.mod_lt _ hn
    · exact dgs_lt hn g (r / n) j (by omega)
theorem enc_dgs (hn : 0 < n) : ∀ g r, r < n ^ g → enc n (dgs n g r) g = r
  | 0, r, h => by rw [Nat.pow_zero] at h; rw [enc]; omega
  | g + 1, r, h => by
    rw [enc]
    have e1 : enc n (dgs n (g + 1) r) g = enc n (dgs n g (r / n)) g := enc_cg g fun j hj => by rw [dgs, if_neg (by omega)]
    have e2 : dgs n (g + 1) r g = r % n := by rw [dgs, if_pos rfl]
    have h3 : r / n < n ^ g := by
      rw [Nat.div_lt_iff_lt_mul hn, ← Nat.pow_succ]
      exact h
    rw [e1, e2, enc_dgs hn g (r / n) h3, Nat.mul_comm]
    exact Nat.div_add_mod r n
theorem dgs_enc : ∀ g, (∀ j, j < g → p j < n) → ∀ j, j < g → dgs n g (enc n p g) j = p j
  | 0, _, j, hj => by omega
  | g + 1, h, j, hj => by
    have hg := h g (by omega)
    have hn : 0 < n := by omega
    rw [dgs, enc]
    by_cases e : j = g
    · rw [if_pos e, e, Nat.mul_comm, Nat.mul_add_mod, Nat.mod_eq_of_lt hg]
    · rw [if_neg e]
      have e1 : (enc n p g * n + p g) / n = enc n p g := by
        rw [Nat.mul_comm, Nat.mul_add_div hn, Nat.div_eq_of_lt hg, Nat.add_zero]
      rw [e1]
      exact dgs_enc g (fun j hj => h j (by omega)) j (by omega)
theorem pud_i (i v : Nat) : pud p i v i = v := if_pos rfl
theorem pud_n {i v j : Nat} (h : ¬ j = i) : pud p i v j = p j := if_neg h
theorem enc_upd {i v : Nat} : ∀ g, i < g → enc n (pud p i v) g + p i * n ^ (g - 1 - i) = enc n p g + v * n ^ (g - 1 - i)
  | 0, h => by omega
  | g + 1, h => by
    rw [enc, enc]
    by_cases e : i = g
    · have e1 : enc n (pud p i v) g = enc n p g := enc_cg g fun j hj => pud_n (by omega)
      rw [e1, e, pud_i, show g + 1 - 1 - g = 0 by omega, Nat.pow_zero]
      omega
    · have ih := enc_upd (i := i) (v := v) g (by omega)
      rw [pud_n (by omega), show g + 1 - 1 - i = (g - 1 - i) + 1 by omega, Nat.pow_succ, ← Nat.mul_assoc, ← Nat.mul_assoc]
      generalize n ^ (g - 1 - i) = u at ih ⊢
      have h2 : (enc n (pud p i v) g + p i * u) * n = (enc n p g + v * u) * n := by rw [ih]
      rw [Nat.add_mul, Nat.add_mul] at h2
      omega
theorem dgs_unit : ∀ b g r, b < g → (r / n ^ b) % n = dgs n g r (g - 1 - b)
  | _, 0, _, h => by omega
  | 0, g + 1, r, _ => by rw [Nat.pow_zero, Nat.div_one, dgs, if_pos (by omega)]
  | b + 1, g + 1, r, h => by
    have ih := dgs_unit b g (r / n) (by omega)
    rw [dgs, if_neg (by omega), show g + 1 - 1 - (b + 1) = g - 1 - b by omega, ← ih, Nat.pow_succ, Nat.mul_comm, Nat.div_div_eq_div_mul]
end
/-! in how many rounds one is taken -/
def cL (n g : Nat) (tn : Nat → Nat) : Nat → (Nat → Nat) → Nat → Prop
  | 0, p, c => ∃ j, j < g ∧ p j = c
  | k + 1, p, c => cL n g tn k p c ∨ ∃ p' : Nat → Nat, (∀ j, j < g → p' j < n ∧ (tn (p j)).testBit (p' j) = true) ∧ ((∃ j, j < g ∧ p' j = c) ∨ ∀ c', c' < n → (tn c).testBit c' = true → cL n g tn k p' c')
/-- it is his turn, and he is taken by then wherever he goes -/
def cT (n g : Nat) (tn : Nat → Nat) (k : Nat) (p : Nat → Nat) (c : Nat) : Prop := (∃ j, j < g ∧ p j = c) ∨ ∀ c', c' < n → (tn c).testBit c' = true → cL n g tn k p c'
def cE (n g : Nat) (tn : Nat → Nat) (k : Nat) (p : Nat → Nat) (c : Nat) : Prop := cL n g tn k p c ∧ ∀ i, i < k → ¬ cL n g tn i p c
section
variable {n g : Nat} {tn : Nat → Nat} {p q : Nat → Nat} {c k : Nat}
theorem cL_s : cL n g tn (k + 1) p c ↔ (cL n g tn k p c ∨ ∃ p' : Nat → Nat, (∀ j, j < g → p' j < n ∧ (tn (p j)).testBit (p' j) = true) ∧ cT n g tn k p' c) := Iff.rfl
theorem cL_up (h : cL n g tn k p c) : cL n g tn (k + 1) p c := Or.inl h
theorem cL_le {j : Nat} (hk : k ≤ j) (h : cL n g tn k p c) : cL n g tn j p c := by
  induction j with
  | zero => rw [show (0 : Nat) = k by omega]; exact h
  | succ j ih =>
    by_cases e : k = j + 1
    · rw [← e]; exact h
    · exact cL_up (ih (by omega))
theorem cL_cg (h : ∀ j, j < g → p j = q j) : ∀ k c, cL n g tn k p c ↔ cL n g tn k q c := by
  intro k
  induction k with
  | zero => exact fun c => ⟨fun ⟨j, h1, h2⟩ => ⟨j, h1, by rw [← h j h1]; exact h2⟩, fun ⟨j, h1, h2⟩ => ⟨j, h1, by rw [h j h1]; exact h2⟩⟩
  | succ k ih =>
    intro c
    rw [cL_s, cL_s, ih c]
    have e : ∀ p' : Nat → Nat, (∀ j, j < g → p' j < n ∧ (tn (p j)).testBit (p' j) = true) ↔ (∀ j, j < g → p' j < n ∧ (tn (q j)).testBit (p' j) = true) := fun p' => ⟨fun z j hj => by rw [← h j hj]; exact z j hj, fun z j hj => by rw [h j hj]; exact z j hj⟩
    simp only [e]
theorem cT_cg (h : ∀ j, j < g → p j = q j) : cT n g tn k p c ↔ cT n g tn k q c := by
  unfold cT
  have e1 : (∃ j, j < g ∧ p j = c) ↔ (∃ j, j < g ∧ q j = c) := ⟨fun ⟨j, h1, h2⟩ => ⟨j, h1, by rw [← h j h1]; exact h2⟩, fun ⟨j, h1, h2⟩ => ⟨j, h1, by rw [h j h1]; exact h2⟩⟩
  rw [e1]
  simp only [cL_cg h]
theorem cE_cg (h : ∀ j, j < g → p j = q j) : cE n g tn k p c ↔ cE n g tn k q c := by
  unfold cE
  simp only [cL_cg h]
theorem cE_ex (h : cL n g tn k p c) : ∃ j, j ≤ k ∧ cE n g tn j p c := by
  induction k with
  | zero => exact ⟨0, Nat.le_refl _, h, fun i hi => by omega⟩
  | succ k ih =>
    by_cases z : cL n g tn k p c
    · obtain ⟨j, h1, h2⟩ := ih z
      exact ⟨j, by omega, h2⟩
    · exact ⟨k + 1, Nat.le_refl _, h, fun i hi w => z (cL_le (by omega) w)⟩
theorem cE_eq {i j : Nat} (h1 : cE n g tn i p c) (h2 : cE n g tn j p c) : i = j := by
  by_cases a : i < j
  · exact absurd h1.1 (h2.2 i a)
  · by_cases b : j < i
    · exact absurd h2.1 (h1.2 j b)
    · omega
theorem cE_new (h1 : ¬ cL n g tn k p c) (h2 : cL n g tn (k + 1) p c) : cE n g tn (k + 1) p c := ⟨h2, fun i hi w => h1 (cL_le (by omega) w)⟩
/-- nothing new: nothing new ever -/
theorem cL_fix (h : ∀ p c, (∀ j, j < g → p j < n) → c < n → cL n g tn (k + 1) p c → cL n g tn k p c) : ∀ i p c, (∀ j, j < g → p j < n) → c < n → cL n g tn i p c → cL n g tn k p c := by
  intro i
  induction i with
  | zero => intro p c _ _ h; exact cL_le (by omega) h
  | succ i ih =>
    intro p c hp hc hi
    rcases cL_s.mp hi with h1 | ⟨p', h1, h2⟩
    · exact ih p c hp hc h1
    · refine h p c hp hc (cL_s.mpr (Or.inr ⟨p', h1, ?_⟩))
      rcases h2 with h2 | h2
      · exact Or.inl h2
      · exact Or.inr fun c' hc' hb => ih p' c' (fun j hj => (h1 j hj).1) hc' (h2 c' hc' hb)
/-! the last b guards have gone -/
def cG (n g : Nat) (tn : Nat → Nat) (k b : Nat) (p : Nat → Nat) (c : Nat) : Prop := ∃ p' : Nat → Nat, (∀ j, j < g → if g ≤ j + b then p' j < n ∧ (tn (p j)).testBit (p' j) = true else p' j = p j) ∧ cT n g tn k p' c
theorem cG_0 : cG n g tn k 0 p c ↔ cT n g tn k p c := by
  constructor
  · rintro ⟨p', h1, h2⟩
    refine (cT_cg fun j hj => ?_).mp h2
    have := h1 j hj
    rw [if_neg (by omega)] at this
    exact this
  · exact fun h => ⟨p, fun j hj => by rw [if_neg (by omega)], h⟩
theorem cG_s {b : Nat} (hb : b < g) : cG n g tn k (b + 1) p c ↔ ∃ t, t < n ∧ (tn (p (g - 1 - b))).testBit t = true ∧ cG n g tn k b (pud p (g - 1 - b) t) c := by
  constructor
  · rintro ⟨p', h1, h2⟩
    have hi := h1 (g - 1 - b) (by omega)
    rw [if_pos (by omega)] at hi
    refine ⟨p' (g - 1 - b), hi.1, hi.2, p', fun j hj => ?_, h2⟩
    have hj' := h1 j hj
    by_cases q1 : g ≤ j + b
    · rw [if_pos (by omega)] at hj'
      rw [if_pos q1, pud_n (by omega)]
      exact hj'
    · rw [if_neg q1]
      by_cases q2 : j = g - 1 - b
      · rw [q2, pud_i]
      · rw [if_neg (by omega)] at hj'
        rw [pud_n q2]
        exact hj'
  · rintro ⟨t, h1, h2, p', h3, h4⟩
    refine ⟨p', fun j hj => ?_, h4⟩
    have hj' := h3 j hj
    by_cases q1 : g ≤ j + b
    · rw [if_pos q1, pud_n (by omega)] at hj'
      rw [if_pos (by omega)]
      exact hj'
    · rw [if_neg q1] at hj'
      by_cases q2 : j = g - 1 - b
      · rw [q2, pud_i] at hj'
        rw [if_pos (by omega), q2, hj']
        exact ⟨h1, h2⟩
      · rw [pud_n q2] at hj'
        rw [if_neg (by omega)]
        exact hj'
theorem cG_g : (cL n g tn k p c ∨ cG n g tn k g p c) ↔ cL n g tn (k + 1) p c := by
  rw [cL_s]
  have e : cG n g tn k g p c ↔ ∃ p' : Nat → Nat, (∀ j, j < g → p' j < n ∧ (tn (p j)).testBit (p' j) = true) ∧ cT n g tn k p' c := by
    unfold cG
    exact ⟨fun ⟨p', h1, h2⟩ => ⟨p', fun j hj => by have := h1 j hj; rw [if_pos (by omega)] at this; exact this, h2⟩, fun ⟨p', h1, h2⟩ => ⟨p', fun j hj => by rw [if_pos (by omega)]; exact h1 j hj, h2⟩⟩
  rw [e]
theorem cG_cg {b : Nat} (h : ∀ j, j < g → p j = q j) : cG n g tn k b p c ↔ cG n g tn k b q c := by
  unfold cG
  have e : ∀ p' : Nat → Nat, (∀ j, j < g → if g ≤ j + b then p' j < n ∧ (tn (p j)).testBit (p' j) = true else p' j = p j) ↔ (∀ j, j < g → if g ≤ j + b then p' j < n ∧ (tn (q j)).testBit (p' j) = true else p' j = q j) := fun p' => ⟨fun z j hj => by rw [← h j hj]; exact z j hj, fun z j hj => by rw [h j hj]; exact z j hj⟩
  simp only [e]
/-! the first b guards have gone -/
def cH (n g : Nat) (tn : Nat → Nat) (k b : Nat) (p : Nat → Nat) (c : Nat) : Prop := ∃ p' : Nat → Nat, (∀ j, j < g → if j < b then p' j < n ∧ (tn (p j)).testBit (p' j) = true else p' j = p j) ∧ cT n g tn k p' c
theorem cH_0 : cH n g tn k 0 p c ↔ cT n g tn k p c := by
  constructor
  · rintro ⟨p', h1, h2⟩
    refine (cT_cg fun j hj => ?_).mp h2
    have := h1 j hj
    rw [if_neg (by omega)] at this
    exact this
  · exact fun h => ⟨p, fun j hj => by rw [if_neg (by omega)], h⟩
theorem cH_s {b : Nat} (hb : b < g) : cH n g tn k (b + 1) p c ↔ ∃ t, t < n ∧ (tn (p b)).testBit t = true ∧ cH n g tn k b (pud p b t) c := by
  constructor
  · rintro ⟨p', h1, h2⟩
    have hi := h1 b (by omega)
    rw [if_pos (by omega)] at hi
    refine ⟨p' b, hi.1, hi.2, p', fun j hj => ?_, h2⟩
    have hj' := h1 j hj
    by_cases q1 : j < b
    · rw [if_pos (by omega)] at hj'
      rw [if_pos q1, pud_n (by omega)]
      exact hj'
    · rw [if_neg q1]
      by_cases q2 : j = b
      · rw [q2, pud_i]
      · rw [if_neg (by omega)] at hj'
        rw [pud_n q2]
        exact hj'
  · rintro ⟨t, h1, h2, p', h3, h4⟩
    refine ⟨p', fun j hj => ?_, h4⟩
    have hj' := h3 j hj
    by_cases q1 : j < b
    · rw [if_pos q1, pud_n (by omega)] at hj'
      rw [if_pos (by omega)]
      exact hj'
    · rw [if_neg q1] at hj'
      by_cases q2 : j = b
      · rw [q2, pud_i] at hj'
        rw [if_pos (by omega), q2, hj']
        exact ⟨h1, h2⟩
      · rw [pud_n q2] at hj'
        rw [if_neg (by omega)]
        exact hj'
theorem cH_g : (cL n g tn k p c ∨ cH n g tn k g p c) ↔ cL n g tn (k + 1) p c := by
  rw [cL_s]
  have e : cH n g tn k g p c ↔ ∃ p' : Nat → Nat, (∀ j, j < g → p' j < n ∧ (tn (p j)).testBit (p' j) = true) ∧ cT n g tn k p' c := by
    unfold cH
    exact ⟨fun ⟨p', h1, h2⟩ => ⟨p', fun j hj => by have := h1 j hj; rw [if_pos (by omega)] at this; exact this, h2⟩, fun ⟨p', h1, h2⟩ => ⟨p', fun j hj => by rw [if_pos (by omega)]; exact h1 j hj, h2⟩⟩
  rw [e]
theorem cH_cg {b : Nat} (h : ∀ j, j < g → p j = q j) : cH n g tn k b p c ↔ cH n g tn k b q c := by
  unfold cH
  have e : ∀ p' : Nat → Nat, (∀ j, j < g → if j < b then p' j < n ∧ (tn (p j)).testBit (p' j) = true else p' j = p j) ↔ (∀ j, j < g → if j < b then p' j < n ∧ (tn (q j)).testBit (p' j) = true else p' j = q j) := fun p' => ⟨fun z j hj => by rw [← h j hj]; exact z j hj, fun z j hj => by rw [h j hj]; exact z j hj⟩
  simp only [e]
end
