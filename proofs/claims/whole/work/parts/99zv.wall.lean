/-! WALL: as many ways side by side as lanes that part two corners -/
def wa_x (S v : Nat) : Int := if S.testBit v = true then 1 else 0
def wa_s (fr to : Nat → Nat) (f : Nat → Int) (S : Nat) : Nat → Int
  | 0 => 0
  | k + 1 => wa_s fr to f S k + f k * (wa_x S (fr k) - wa_x S (to k))
def wa_out (fr to on : Nat → Nat) (bar S k : Nat) : Bool := !bar.testBit k && ((S.testBit (fr k) && !S.testBit (to k)) || (S.testBit (to k) && !S.testBit (fr k) && decide (on k = 0)))
def wa_o (fr to on : Nat → Nat) (bar S : Nat) : Nat → Nat
  | 0 => 0
  | k + 1 => wa_o fr to on bar S k + (if wa_out fr to on bar S k = true then 1 else 0)
/-- what can go by each lane -/
def wa_ok (on : Nat → Nat) (bar nl : Nat) (f : Nat → Int) : Prop := ∀ k, k < nl → (bar.testBit k = true → f k = 0) ∧ -1 ≤ f k ∧ f k ≤ 1 ∧ (on k = 1 → 0 ≤ f k)
/-- a lane can be gone once more, from x -/
def wa_R (fr to on : Nat → Nat) (bar : Nat) (f : Nat → Int) (k x : Nat) : Prop := bar.testBit k = false ∧ ((fr k = x ∧ f k < 1) ∨ (¬ fr k = x ∧ to k = x ∧ (if on k = 1 then 0 else -1) < f k))
section
variable {N nc nl bar : Nat} {fr to on : Nat → Nat} {f : Nat → Int}
theorem wa_upd {S k0 : Nat} {d : Int} : ∀ n, wa_s fr to (fun i => if i = k0 then f i + d else f i) S n = wa_s fr to f S n + (if k0 < n then d * (wa_x S (fr k0) - wa_x S (to k0)) else 0)
  | 0 => by rw [if_neg (by omega)]; rfl
  | n + 1 => by
    rw [wa_s, wa_s, wa_upd n]
    by_cases q : n = k0
    · rw [if_pos q, if_neg (by omega), if_pos (by omega), q, Int.add_mul]
      omega
    · rw [if_neg q]
      by_cases q2 : k0 < n
      · rw [if_pos q2, if_pos (by omega)]
        omega
      · rw [if_neg q2, if_neg (by omega)]
        omega
theorem wa_le {S : Nat} (ho : ∀ k, k < nl → on k ≤ 1) (h : wa_ok on bar nl f) : ∀ n, n ≤ nl → wa_s fr to f S n ≤ (wa_o fr to on bar S n : Int)
  | 0, _ => by rw [wa_s, wa_o]; exact Int.le_refl _
  | n + 1, hn => by
    have ih := wa_le (S := S) ho h n (by omega)
    obtain ⟨h1, h2, h3, h4⟩ := h n (by omega)
    have h5 := ho n (by omega)
    rw [wa_s, wa_o]
    unfold wa_out wa_x
    by_cases qb : bar.testBit n = true
    · rw [h1 qb, qb]
      simp
      exact ih
    · have qb : bar.testBit n = false := by cases z : bar.testBit n with | true => exact absurd z qb | false => rfl
      rw [qb]
      by_cases qo : on n = 0
      · cases S.testBit (fr n) <;> cases S.testBit (to n) <;> simp [qo] <;> omega
      · have h6 := h4 (by omega)
        cases S.testBit (fr n) <;> cases S.testBit (to n) <;> simp [qo] <;> omega
/-- nothing can go out of B any more: as much goes as could -/
theorem wa_eq {B : Nat} (ho : ∀ k, k < nl → on k ≤ 1) (h : wa_ok on bar nl f) (cl : ∀ k, k < nl → ¬ (B.testBit (fr k) = true ∧ B.testBit (to k) = false ∧ wa_R fr to on bar f k (fr k)) ∧ ¬ (B.testBit (to k) = true ∧ B.testBit (fr k) = false ∧ wa_R fr to on bar f k (to k))) : ∀ n, n ≤ nl → wa_s fr to f B n = (wa_o fr to on bar B n : Int)
  | 0, _ => by rw [wa_s, wa_o]; rfl
  | n + 1, hn => by
    have ih := wa_eq ho h cl n (by omega)
    obtain ⟨h1, h2, h3, h4⟩ := h n (by omega)
    obtain ⟨c1, c2⟩ := cl n (by omega)
    have h5 := ho n (by omega)
    rw [wa_s, wa_o]
    unfold wa_out wa_x
    by_cases qb : bar.testBit n = true
    · rw [h1 qb, qb]
      simp
      exact ih
    · have qb : bar.testBit n = false := by cases z : bar.testBit n with | true => exact absurd z qb | false => rfl
      rw [qb]
      have d1 : B.testBit (fr n) = true → B.testBit (to n) = false → f n = 1 := fun e1 e2 => by
        by_cases z : f n < 1
        · exact absurd ⟨e1, e2, qb, Or.inl ⟨rfl, z⟩⟩ c1
        · omega
      have d2 : B.testBit (to n) = true → B.testBit (fr n) = false → f n = if on n = 1 then 0 else -1 := fun e1 e2 => by
        by_cases z : (if on n = 1 then 0 else -1) < f n
        · refine absurd ⟨e1, e2, qb, Or.inr ⟨fun e => ?_, rfl, z⟩⟩ c2
          rw [e, e1] at e2
          cases e2
        · by_cases o1 : on n = 1
          · rw [if_pos o1] at z ⊢
            have := h4 o1
            omega
          · rw [if_neg o1] at z ⊢
            omega
      by_cases qo : on n = 0
      · have n1 : ¬ on n = 1 := by omega
        rw [if_neg n1] at d2
        cases e1 : B.testBit (fr n) <;> cases e2 : B.testBit (to n) <;> simp [qo] <;> (first | omega | (have := d1 e1 e2; omega) | (have := d2 e2 e1; omega))
      · have n1 : on n = 1 := by omega
        rw [if_pos n1] at d2
        cases e1 : B.testBit (fr n) <;> cases e2 : B.testBit (to n) <;> simp [qo] <;> (first | omega | (have := d1 e1 e2; omega) | (have := d2 e2 e1; omega))
theorem wa_o_le {S : Nat} : ∀ n, wa_o fr to on bar S n ≤ n
  | 0 => Nat.le_refl _
  | n + 1 => by
    have := wa_o_le (S := S) n
    rw [wa_o]
    split <;> omega
/-- the fewest over all sets that hold a and not b -/
def wa_m (fr to on : Nat → Nat) (bar nl a b : Nat) : Nat → Nat
  | 0 => 20
  | S + 1 => if S.testBit a = true then (if S.testBit b = false then min (wa_m fr to on bar nl a b S) (wa_o fr to on bar S nl) else wa_m fr to on bar nl a b S) else wa_m fr to on bar nl a b S
theorem wa_m_ge {n a b : Nat} (h2 : n ≤ 20) (h : ∀ S, S.testBit a = true → S.testBit b = false → n ≤ wa_o fr to on bar S nl) : ∀ S, n ≤ wa_m fr to on bar nl a b S
  | 0 => h2
  | S + 1 => by
    have ih := wa_m_ge h2 h S
    rw [wa_m]
    split
    · rename_i q1
      split
      · rename_i q2
        have := h S q1 q2
        omega
      · exact ih
    · exact ih
theorem wa_m_le {B a b : Nat} (h1 : B.testBit a = true) (h2 : B.testBit b = false) : ∀ S, B < S → wa_m fr to on bar nl a b S ≤ wa_o fr to on bar B nl
  | 0, h => by omega
  | S + 1, h => by
    rw [wa_m]
    by_cases e : B = S
    · rw [← e, if_pos h1, if_pos h2]; omega
    · have ih := wa_m_le h1 h2 S (by omega)
      split
      · split
        · omega
        · exact ih
      · exact ih
theorem wa_m_20 {a b : Nat} : ∀ S, wa_m fr to on bar nl a b S ≤ 20
  | 0 => Nat.le_refl _
  | S + 1 => by
    have := wa_m_20 (a := a) (b := b) S
    rw [wa_m]
    split
    · split <;> omega
    · omega
/-! the class's -/
theorem wa_X1 {t S : Nat} {s : hq_S} (hN : 100 < N) (hS : S < 1024) (hb : bar < 2147483648) (X : hl_X t nl nc fr to on s) : f_X10_lanesOutOf N t (Int32.ofNat S) (Int32.ofNat bar) s = some (Int32.ofNat (wa_o fr to on bar S nl), s) := by
  obtain ⟨x1, x2, x3, x4, x5⟩ := X
  have d10 : ¬ (1 : Int32) = 0 := by decide
  have p0 : ∀ n : Nat, Int32.ofNat n + 0 = Int32.ofNat n := fun n => nb_add n 0
  have p1 : ∀ n : Nat, Int32.ofNat n + 1 = Int32.ofNat (n + 1) := fun n => nb_add n 1
  have key : ∀ (q k m : Nat), k + q = nl → q < m → f_X10_lanesOutOf_L5 N m t (Int32.ofNat S) (Int32.ofNat bar) (Int32.ofNat (wa_o fr to on bar S k)) (Int32.ofNat k) s = some (Int32.ofNat (wa_o fr to on bar S nl), s) := by
    intro q
    induction q with
    | zero =>
      intro k m hk hm
      obtain ⟨m, rfl⟩ : ∃ j, m = j + 1 := ⟨m - 1, by omega⟩
      have hk : k = nl := by omega
      have c : ¬ Int32.ofNat k < Int32.ofNat nl := by rw [nn_lt (by omega) (by omega)]; omega
      simp only [f_X10_lanesOutOf_L5_s, f_X10_lanesOutOf_L5_B, x4, if_neg c]
      rw [hk]
    | succ q ih =>
      intro k m hk hm
      obtain ⟨m, rfl⟩ : ∃ j, m = j + 1 := ⟨m - 1, by omega⟩
      have c : Int32.ofNat k < Int32.ofNat nl := (nn_lt (by omega) (by omega)).mpr (by omega)
      obtain ⟨y1, y2, y3, y4, y5, y6⟩ := x5 k (by omega)
      have l3 : hq_ld s (t + 3) 20 (Int32.ofNat k) = some (Int32.ofNat (fr k)) := by rw [nn_ld (by omega) (by omega), y3]
      have l4 : hq_ld s (t + 4) 20 (Int32.ofNat k) = some (Int32.ofNat (to k)) := by rw [nn_ld (by omega) (by omega), y4]
      have b1 := nb_bit1 (show S < 2147483648 by omega) (show fr k < 32 by omega)
      have b2 := nb_bit1 (show S < 2147483648 by omega) (show to k < 32 by omega)
      have b3 := nb_bit0 hb (show k < 32 by omega)
      have ow : f_X10_isOneWay N t (Int32.ofNat k) s = some (if on k = 0 then 0 else 1, s) := by
        unfold f_X10_isOneWay
        rw [y6]
        by_cases z : on k = 0
        · rw [z, if_pos rfl, if_neg (by decide)]
        · have z : on k = 1 := by omega
          rw [z, if_pos (show Int32.ofNat 1 = 1 from rfl), if_neg (show ¬ 1 = 0 by omega)]
      rw [← ih (k + 1) m (by omega) (by omega), wa_o]
      unfold wa_out
      by_cases q1 : S.testBit (fr k) = true
      · by_cases q2 : S.testBit (to k) = true
        · simp only [f_X10_lanesOutOf_L5_s, f_X10_lanesOutOf_L5_B, x4, if_pos c, l3, l4, Option.bind_some, b1, b2, if_pos q1, if_pos q2, if_neg d10, if_true, p0, nn_succ]
          rw [q1, q2]
          simp
        · have q2' : S.testBit (to k) = false := by cases z : S.testBit (to k) with | true => exact absurd z q2 | false => rfl
          by_cases q3 : bar.testBit k = false
          · simp only [f_X10_lanesOutOf_L5_s, f_X10_lanesOutOf_L5_B, x4, if_pos c, l3, l4, Option.bind_some, b1, b2, b3, if_pos q1, if_neg q2, if_neg d10, if_true, if_pos q3, p1, nn_succ]
            rw [q1, q2', q3]
            rfl
          · have q3' : bar.testBit k = true := by cases z : bar.testBit k with | false => exact absurd z q3 | true => rfl
            simp only [f_X10_lanesOutOf_L5_s, f_X10_lanesOutOf_L5_B, x4, if_pos c, l3, l4, Option.bind_some, b1, b2, b3, if_pos q1, if_neg q2, if_neg d10, if_true, if_neg q3, p0, nn_succ]
            rw [q3']
            rfl
      · have q1' : S.testBit (fr k) = false := by cases z : S.testBit (fr k) with | true => exact absurd z q1 | false => rfl
        by_cases q2 : S.testBit (to k) = true
        · by_cases q4 : on k = 0
          · by_cases q3 : bar.testBit k = false
            · simp only [f_X10_lanesOutOf_L5_s, f_X10_lanesOutOf_L5_B, x4, if_pos c, l3, l4, Option.bind_some, b1, b2, b3, if_neg q1, if_pos q2, if_neg d10, if_true, ow, if_pos q4, if_pos q3, p1, nn_succ]
              rw [q1', q2, q3, q4]
              rfl
            · have q3' : bar.testBit k = true := by cases z : bar.testBit k with | false => exact absurd z q3 | true => rfl
              simp only [f_X10_lanesOutOf_L5_s, f_X10_lanesOutOf_L5_B, x4, if_pos c, l3, l4, Option.bind_some, b1, b2, b3, if_neg q1, if_pos q2, if_neg d10, if_true, ow, if_pos q4, if_neg q3, p0, nn_succ]
              rw [q3']
              rfl
          · simp only [f_X10_lanesOutOf_L5_s, f_X10_lanesOutOf_L5_B, x4, if_pos c, l3, l4, Option.bind_some, b1, b2, if_neg q1, if_pos q2, if_neg d10, if_true, ow, if_neg q4, p0, nn_succ]
            rw [q1', q2, decide_eq_false q4]
            simp
        · have q2' : S.testBit (to k) = false := by cases z : S.testBit (to k) with | true => exact absurd z q2 | false => rfl
          simp only [f_X10_lanesOutOf_L5_s, f_X10_lanesOutOf_L5_B, x4, if_pos c, l3, l4, Option.bind_some, b1, b2, if_neg q1, if_neg q2, if_true, p0, nn_succ]
          rw [q1', q2']
          simp
  exact key nl 0 N (by omega) (by omega)
theorem wa_X2 {t a b : Nat} {s : hq_S} (hN : 1100 < N) (hb : bar < 2147483648) (ha : a < nc) (hb' : b < nc) (X : hl_X t nl nc fr to on s) : f_X10_fewestBars N t (Int32.ofNat bar) (Int32.ofNat a) (Int32.ofNat b) s = some (Int32.ofNat (wa_m fr to on bar nl a b (2 ^ nc)), s) := by
  have hnc := X.1
  have h2 : 2 ^ nc ≤ 1024 := Nat.pow_le_pow_right (by omega) hnc
  have on1 : (1 : Int32) <<< (hq_gi s t 0 &&& 31) = Int32.ofNat (2 ^ nc) := by rw [X.2.2.1, nb_one (by omega)]
  have key : ∀ (q S m : Nat), S + q = 2 ^ nc → q < m → f_X10_fewestBars_L7 N m t (Int32.ofNat bar) (Int32.ofNat a) (Int32.ofNat b) (Int32.ofNat (wa_m fr to on bar nl a b S)) (Int32.ofNat S) s = some (Int32.ofNat (wa_m fr to on bar nl a b (2 ^ nc)), s) := by
    intro q
    induction q with
    | zero =>
      intro S m hS hm
      obtain ⟨m, rfl⟩ : ∃ j, m = j + 1 := ⟨m - 1, by omega⟩
      have hS : S = 2 ^ nc := by omega
      have c : ¬ Int32.ofNat S < Int32.ofNat (2 ^ nc) := by rw [nn_lt (by omega) (by omega)]; omega
      simp only [f_X10_fewestBars_L7_s, f_X10_fewestBars_L7_B, on1, if_neg c]
      rw [hS]
    | succ q ih =>
      intro S m hS hm
      obtain ⟨m, rfl⟩ : ∃ j, m = j + 1 := ⟨m - 1, by omega⟩
      have c : Int32.ofNat S < Int32.ofNat (2 ^ nc) := (nn_lt (by omega) (by omega)).mpr (by omega)
      have b1 := nb_bit1 (show S < 2147483648 by omega) (show a < 32 by omega)
      have b2 := nb_bit0 (show S < 2147483648 by omega) (show b < 32 by omega)
      have lo := wa_X1 (N := N) (t := t) (S := S) (s := s) (by omega) (by omega) hb X
      have w1 := wa_m_20 (fr := fr) (to := to) (on := on) (bar := bar) (nl := nl) (a := a) (b := b) S
      have w2 := wa_o_le (fr := fr) (to := to) (on := on) (bar := bar) (S := S) nl
      have w3 := X.2.1
      have mn := nb_min (show wa_m fr to on bar nl a b S < 2147483648 by omega) (show wa_o fr to on bar S nl < 2147483648 by omega)
      rw [← ih (S + 1) m (by omega) (by omega), wa_m]
      by_cases q1 : S.testBit a = true
      · by_cases q2 : S.testBit b = false
        · simp only [f_X10_fewestBars_L7_s, f_X10_fewestBars_L7_B, on1, if_pos c, b1, b2, if_pos q1, if_pos q2, lo, mn, Option.bind_some, nn_succ]
        · simp only [f_X10_fewestBars_L7_s, f_X10_fewestBars_L7_B, on1, if_pos c, b1, b2, if_pos q1, if_neg q2, Option.bind_some, nn_succ]
      · simp only [f_X10_fewestBars_L7_s, f_X10_fewestBars_L7_B, on1, if_pos c, b1, if_neg q1, Option.bind_some, nn_succ]
  exact key (2 ^ nc) 0 N (by omega) (by omega)
end
