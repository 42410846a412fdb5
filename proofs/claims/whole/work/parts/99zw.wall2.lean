/-! WALL: the reference's ways, one after the other -/
/-- what the reference holds of the lanes and of what goes by them -/
def wa_M (nl nc bar : Nat) (fr to on : Nat → Nat) (f : Nat → Int) (s : hq_S) : Prop := hl_M nl nc fr to on s ∧ hq_gi s 198 0 = Int32.ofNat bar ∧ bar < 1048576 ∧ wa_ok on bar nl f ∧ ∀ k, k < nl → hq_gi s 219 k = Int32.ofInt (f k)
/-- corner b was come to by the lane k, over which more can go, from a corner before it -/
def wa_C (nl bar : Nat) (fr to on : Nat → Nat) (f : Nat → Int) (r : Nat → Nat) (B : Nat) (s : hq_S) (b : Nat) : Prop := ∃ k, k < nl ∧ hq_gi s 220 b = Int32.ofNat k ∧ bar.testBit k = false ∧ ((to k = b ∧ B.testBit (fr k) = true ∧ r (fr k) < r b ∧ f k < 1) ∨ (fr k = b ∧ B.testBit (to k) = true ∧ r (to k) < r b ∧ (if on k = 1 then 0 else -1) < f k))
def wa_J (nl nc bar a : Nat) (fr to on : Nat → Nat) (f : Nat → Int) (r : Nat → Nat) (R B : Nat) (s : hq_S) : Prop := B < 2 ^ nc ∧ B.testBit a = true ∧ R ≤ B ∧ (∀ b, B.testBit b = true → r b < R) ∧ ∀ b, B.testBit b = true → ¬ b = a → wa_C nl bar fr to on f r B s b
section
variable {N nc nl bar : Nat} {fr to on : Nat → Nat} {f : Nat → Int} {s s' : hq_S}
theorem wa_3 {x : Int} (h1 : -1 ≤ x) (h2 : x ≤ 1) : x = -1 ∨ x = 0 ∨ x = 1 := by omega
theorem wa_room {k x : Nat} (hk : k < nl) (hx : x < 1000) (M : wa_M nl nc bar fr to on f s) : ∃ v, f_X12_hasRoom N (Int32.ofNat k) (Int32.ofNat x) s = some (v, s) ∧ ((v = 1 ∧ wa_R fr to on bar f k x) ∨ (v = 0 ∧ ¬ wa_R fr to on bar f k x)) := by
  obtain ⟨⟨m1, m2, m3, m4, m5⟩, B, Bl, ok, F⟩ := M
  obtain ⟨y1, y2, y3, y4, y5, y6⟩ := m5 k hk
  obtain ⟨o1, o2, o3, o4⟩ := ok k hk
  have e := F k hk
  have l0 : hq_ld s 198 23 0 = some (Int32.ofNat bar) := by rw [nb_0, nn_ld (by omega) (by omega), B]
  have l1 : hq_ld s 180 40 (Int32.ofNat k) = some (Int32.ofNat (fr k)) := by rw [nn_ld (by omega) (by omega), y3]
  have l2 : hq_ld s 181 40 (Int32.ofNat k) = some (Int32.ofNat (to k)) := by rw [nn_ld (by omega) (by omega), y4]
  have l3 : hq_ld s 182 40 (Int32.ofNat k) = some (Int32.ofNat (on k)) := by rw [nn_ld (by omega) (by omega), y6]
  have l4 : hq_ld s 219 20 (Int32.ofNat k) = some (Int32.ofInt (f k)) := by rw [nn_ld (by omega) (by omega), e]
  have b1 := nb_bit1 (show bar < 2147483648 by omega) (show k < 32 by omega)
  have q3 := nb_eq (show fr k < 2147483648 by omega) (show x < 2147483648 by omega)
  have q4 := nb_eq (show to k < 2147483648 by omega) (show x < 2147483648 by omega)
  by_cases c1 : bar.testBit k = true
  · exact ⟨0, by simp only [f_X12_hasRoom, l0, Option.bind_some, b1, if_pos c1], Or.inr ⟨rfl, fun h => by rw [h.1] at c1; cases c1⟩⟩
  · have c1' : bar.testBit k = false := by cases z : bar.testBit k with | true => exact absurd z c1 | false => rfl
    by_cases c2 : fr k = x
    · by_cases c3 : f k < 1
      · have c4 : Int32.ofInt (f k) < 1 := by
          rcases wa_3 o2 o3 with z | z | z <;> rw [z] at c3 ⊢ <;> first | decide | (exact absurd c3 (by decide))
        exact ⟨1, by simp only [f_X12_hasRoom, l0, l1, l4, Option.bind_some, b1, if_neg c1, q3, if_pos c2, if_pos c4], Or.inl ⟨rfl, c1', Or.inl ⟨c2, c3⟩⟩⟩
      · have c4 : ¬ Int32.ofInt (f k) < 1 := by
          rcases wa_3 o2 o3 with z | z | z <;> rw [z] at c3 ⊢ <;> first | decide | (exact absurd (by decide) c3)
        exact ⟨0, by simp only [f_X12_hasRoom, l0, l1, l4, Option.bind_some, b1, if_neg c1, q3, if_pos c2, if_neg c4], Or.inr ⟨rfl, fun h => by
          rcases h.2 with ⟨-, h⟩ | ⟨h, -⟩
          · exact c3 h
          · exact h c2⟩⟩
    · by_cases c5 : to k = x
      · have lo : ∃ z : Int32, (if Int32.ofNat (on k) = 1 then some (0 : Int32) else some (-1)) = some z ∧ ((z < Int32.ofInt (f k)) = ((if on k = 1 then 0 else -1) < f k)) := by
          have y5' : on k = 0 ∨ on k = 1 := by omega
          rcases y5' with w | w
          · refine ⟨-1, by rw [w]; rfl, ?_⟩
            rw [w]
            rcases wa_3 o2 o3 with z | z | z <;> rw [z] <;> decide
          · refine ⟨0, by rw [w]; rfl, ?_⟩
            rw [w]
            rcases wa_3 o2 o3 with z | z | z <;> rw [z] <;> decide
        obtain ⟨z, z1, z2⟩ := lo
        by_cases c6 : (if on k = 1 then 0 else -1) < f k
        · exact ⟨1, by simp only [f_X12_hasRoom, l0, l1, l2, l3, l4, Option.bind_some, b1, if_neg c1, q3, q4, if_neg c2, if_pos c5, z1, z2, if_pos c6], Or.inl ⟨rfl, c1', Or.inr ⟨c2, c5, c6⟩⟩⟩
        · exact ⟨0, by simp only [f_X12_hasRoom, l0, l1, l2, l3, l4, Option.bind_some, b1, if_neg c1, q3, q4, if_neg c2, if_pos c5, z1, z2, if_neg c6], Or.inr ⟨rfl, fun h => by
            rcases h.2 with ⟨h, -⟩ | ⟨-, -, h⟩
            · exact c2 h
            · exact c6 h⟩⟩
      · exact ⟨0, by simp only [f_X12_hasRoom, l0, l1, l2, Option.bind_some, b1, if_neg c1, q3, q4, if_neg c2, if_neg c5], Or.inr ⟨rfl, fun h => by
          rcases h.2 with ⟨h, -⟩ | ⟨-, h, -⟩
          · exact c2 h
          · exact c5 h⟩⟩
theorem wa_M_k (e : ∀ c i, ¬ c = 220 → hq_gi s' c i = hq_gi s c i) (M : wa_M nl nc bar fr to on f s) : wa_M nl nc bar fr to on f s' := by
  unfold wa_M hl_M at M ⊢
  simp (disch := omega) only [e]
  exact M
/-- a corner more -/
theorem wa_add {a b k R B : Nat} {r : Nat → Nat} (hb : b < nc) (hk : k < nl) (n : B.testBit b = false) (q : bar.testBit k = false) (h : (to k = b ∧ B.testBit (fr k) = true ∧ f k < 1) ∨ (fr k = b ∧ B.testBit (to k) = true ∧ (if on k = 1 then 0 else -1) < f k)) (J : wa_J nl nc bar a fr to on f r R B s) : wa_J nl nc bar a fr to on f (fun x => if x = b then R else r x) (R + 1) (B ||| 2 ^ b) (hq_si s 220 b (Int32.ofNat k)) ∧ B < B ||| 2 ^ b := by
  obtain ⟨j1, j2, j3, j4, j5⟩ := J
  have tb : ∀ x, (B ||| 2 ^ b).testBit x = true ↔ (B.testBit x = true ∨ x = b) := fun x => by
    rw [Nat.testBit_or, nb_2p, Bool.or_eq_true, decide_eq_true_iff]
    exact ⟨fun h => h.imp id Eq.symm, fun h => h.imp id Eq.symm⟩
  have lt : B < B ||| 2 ^ b := by
    have h1 : B ≤ B ||| 2 ^ b := Nat.left_le_or
    have h2 : ¬ B = B ||| 2 ^ b := fun e => by
      have h3 := (tb b).mpr (Or.inr rfl)
      rw [← e, n] at h3
      cases h3
    omega
  have nb : ∀ x, B.testBit x = true → ¬ x = b := fun x hx e => by rw [e, n] at hx; cases hx
  have rl : ∀ x, B.testBit x = true → (if x = b then R else r x) = r x := fun x hx => if_neg (nb x hx)
  refine ⟨⟨nb_lt_or j1 (nb_2lt hb), (tb a).mpr (Or.inl j2), by omega, fun x hx => ?_, fun x hx hxa => ?_⟩, lt⟩
  · rcases (tb x).mp hx with h1 | h1
    · show (if x = b then R else r x) < R + 1
      rw [rl x h1]
      have := j4 x h1
      omega
    · show (if x = b then R else r x) < R + 1
      rw [if_pos h1]
      omega
  · rcases (tb x).mp hx with h1 | h1
    · obtain ⟨k', c1, c2, c3, c4⟩ := j5 x h1 hxa
      refine ⟨k', c1, by rw [nb_ii, if_neg (fun z => nb x h1 z.2)]; exact c2, c3, ?_⟩
      show (to k' = x ∧ _ ∧ (if fr k' = b then R else r (fr k')) < (if x = b then R else r x) ∧ _) ∨ (fr k' = x ∧ _ ∧ (if to k' = b then R else r (to k')) < (if x = b then R else r x) ∧ _)
      rw [rl x h1]
      rcases c4 with ⟨d1, d2, d3, d4⟩ | ⟨d1, d2, d3, d4⟩
      · exact Or.inl ⟨d1, (tb _).mpr (Or.inl d2), by rw [rl _ d2]; exact d3, d4⟩
      · exact Or.inr ⟨d1, (tb _).mpr (Or.inl d2), by rw [rl _ d2]; exact d3, d4⟩
    · subst h1
      refine ⟨k, hk, by rw [nb_ii, if_pos ⟨rfl, rfl⟩], q, ?_⟩
      show (to k = x ∧ _ ∧ (if fr k = x then R else r (fr k)) < (if x = x then R else r x) ∧ _) ∨ (fr k = x ∧ _ ∧ (if to k = x then R else r (to k)) < (if x = x then R else r x) ∧ _)
      rw [if_pos (rfl : x = x)]
      rcases h with ⟨d1, d2, d3⟩ | ⟨d1, d2, d3⟩
      · exact Or.inl ⟨d1, (tb _).mpr (Or.inl d2), by rw [rl _ d2]; exact j4 _ d2, d3⟩
      · exact Or.inr ⟨d1, (tb _).mpr (Or.inl d2), by rw [rl _ d2]; exact j4 _ d2, d3⟩
/-- nothing more by lane k -/
def wa_no (bar : Nat) (fr to on : Nat → Nat) (f : Nat → Int) (B k : Nat) : Prop := ¬ (B.testBit (fr k) = true ∧ B.testBit (to k) = false ∧ wa_R fr to on bar f k (fr k)) ∧ ¬ (B.testBit (to k) = true ∧ B.testBit (fr k) = false ∧ wa_R fr to on bar f k (to k))
/-- one end of a lane -/
theorem wa_end {q7 : Int32 → Int32 → Int32 → Int32 → hq_S → Option (Int32 × hq_S)} {q26 : Int32 → Int32 → Int32 → Int32 → Int32 → hq_S → Option (Int32 × hq_S)} {a t k e B R m : Nat} {r : Nat → Nat} {a4 : Int32} (hk : k < nl) (he : e = 0 ∨ e = 1) (M : wa_M nl nc bar fr to on f s) (J : wa_J nl nc bar a fr to on f r R B s) : ∃ (B' R' : Nat) (r' : Nat → Nat) (a4' : Int32) (s' : hq_S), f_X12_findsOne_L40 N q7 q26 (m + 1) (Int32.ofNat a) (Int32.ofNat t) (Int32.ofNat B) a4 (Int32.ofNat k) (Int32.ofNat e) s = f_X12_findsOne_L40 N q7 q26 m (Int32.ofNat a) (Int32.ofNat t) (Int32.ofNat B') a4' (Int32.ofNat k) (Int32.ofNat (e + 1)) s' ∧ wa_J nl nc bar a fr to on f r' R' B' s' ∧ (∀ c i, ¬ c = 220 → hq_gi s' c i = hq_gi s c i) ∧ ((a4' = 1 ∧ B < B') ∨ (a4' = a4 ∧ B' = B ∧ ¬ (B.testBit (if e = 0 then fr k else to k) = true ∧ B.testBit (if e = 0 then to k else fr k) = false ∧ wa_R fr to on bar f k (if e = 0 then fr k else to k)))) := by
  obtain ⟨⟨m1, m2, m3, m4, m5⟩, -⟩ := id M
  obtain ⟨y1, y2, y3, y4, y5, y6⟩ := m5 k hk
  have l1 : hq_ld s 180 40 (Int32.ofNat k) = some (Int32.ofNat (fr k)) := by rw [nn_ld (by omega) (by omega), y3]
  have l2 : hq_ld s 181 40 (Int32.ofNat k) = some (Int32.ofNat (to k)) := by rw [nn_ld (by omega) (by omega), y4]
  have hB : B < 1024 := nb_1024 m1 J.1
  have d10 : ¬ (1 : Int32) = 0 := by decide
  have gen : ∀ x y : Nat, x < nc → y < nc → (∀ z, (if Int32.ofNat e = 0 then (hq_ld s 180 40 (Int32.ofNat k)).bind fun x10 => some x10 else (hq_ld s 181 40 (Int32.ofNat k)).bind fun x9 => some x9) = some z → z = Int32.ofNat x) → (if Int32.ofNat e = 0 then (hq_ld s 180 40 (Int32.ofNat k)).bind fun x10 => some x10 else (hq_ld s 181 40 (Int32.ofNat k)).bind fun x9 => some x9) = some (Int32.ofNat x) → (if Int32.ofNat e = 0 then (hq_ld s 181 40 (Int32.ofNat k)).bind fun x14 => some x14 else (hq_ld s 180 40 (Int32.ofNat k)).bind fun x13 => some x13) = some (Int32.ofNat y) → (x = fr k ∧ y = to k ∨ x = to k ∧ y = fr k) → ∃ (B' R' : Nat) (r' : Nat → Nat) (a4' : Int32) (s' : hq_S), f_X12_findsOne_L40 N q7 q26 (m + 1) (Int32.ofNat a) (Int32.ofNat t) (Int32.ofNat B) a4 (Int32.ofNat k) (Int32.ofNat e) s = f_X12_findsOne_L40 N q7 q26 m (Int32.ofNat a) (Int32.ofNat t) (Int32.ofNat B') a4' (Int32.ofNat k) (Int32.ofNat (e + 1)) s' ∧ wa_J nl nc bar a fr to on f r' R' B' s' ∧ (∀ c i, ¬ c = 220 → hq_gi s' c i = hq_gi s c i) ∧ ((a4' = 1 ∧ B < B') ∨ (a4' = a4 ∧ B' = B ∧ ¬ (B.testBit x = true ∧ B.testBit y = false ∧ wa_R fr to on bar f k x))) := by
    intro x y hx hy _ g1 g2 hxy
    have c : Int32.ofNat e < (2 : Int32) := by rw [nb_lit 2, nn_lt (by omega) (by omega)]; omega
    have b1 := nb_bit0 (show B < 2147483648 by omega) (show x < 32 by omega)
    have b2 := nb_bit1 (show B < 2147483648 by omega) (show y < 32 by omega)
    by_cases q1 : B.testBit x = false
    · exact ⟨B, R, r, a4, s, by simp only [f_X12_findsOne_L40_s, f_X12_findsOne_L40_B, if_pos c, g1, g2, Option.bind_some, b1, if_pos q1, nn_succ], J, fun _ _ _ => rfl, Or.inr ⟨rfl, rfl, fun h => by rw [h.1] at q1; cases q1⟩⟩
    · have q1' : B.testBit x = true := by cases z : B.testBit x with | false => exact absurd z q1 | true => rfl
      by_cases q2 : B.testBit y = true
      · exact ⟨B, R, r, a4, s, by simp only [f_X12_findsOne_L40_s, f_X12_findsOne_L40_B, if_pos c, g1, g2, Option.bind_some, b1, b2, if_neg q1, if_pos q2, nn_succ], J, fun _ _ _ => rfl, Or.inr ⟨rfl, rfl, fun h => by rw [h.2.1] at q2; cases q2⟩⟩
      · have q2' : B.testBit y = false := by cases z : B.testBit y with | true => exact absurd z q2 | false => rfl
        have nxy : ¬ x = y := fun e => by rw [e, q2'] at q1'; cases q1'
        obtain ⟨v, v1, v2⟩ := wa_room (N := N) (x := x) hk (by omega) M
        rcases v2 with ⟨rfl, v2⟩ | ⟨rfl, v2⟩
        · have st : hq_st s 220 10 (Int32.ofNat y) (Int32.ofNat k) = some (hq_si s 220 y (Int32.ofNat k)) := nn_st (by omega) (by omega)
          obtain ⟨J', lt⟩ := wa_add (k := k) hy hk q2' v2.1 (by
            rcases hxy with ⟨rfl, rfl⟩ | ⟨rfl, rfl⟩
            · rcases v2.2 with ⟨-, h⟩ | ⟨h, -⟩
              · exact Or.inl ⟨rfl, q1', h⟩
              · exact absurd rfl h
            · rcases v2.2 with ⟨h, -⟩ | ⟨-, -, h⟩
              · exact absurd h.symm nxy
              · exact Or.inr ⟨rfl, q1', h⟩) J
          exact ⟨B ||| 2 ^ y, R + 1, _, 1, hq_si s 220 y (Int32.ofNat k), by simp only [f_X12_findsOne_L40_s, f_X12_findsOne_L40_B, if_pos c, g1, g2, Option.bind_some, b1, b2, if_neg q1, if_neg q2, v1, if_neg d10, st, nb_one (show y < 32 by omega), nb_or, nn_succ], J', fun c i h => by rw [nb_ii, if_neg (fun z => h z.1)], Or.inl ⟨rfl, lt⟩⟩
        · exact ⟨B, R, r, a4, s, by simp only [f_X12_findsOne_L40_s, f_X12_findsOne_L40_B, if_pos c, g1, g2, Option.bind_some, b1, b2, if_neg q1, if_neg q2, v1, if_true, nn_succ], J, fun _ _ _ => rfl, Or.inr ⟨rfl, rfl, fun h => v2 h.2.2⟩⟩
  have n10 : ¬ Int32.ofNat 1 = 0 := by decide
  have z00 : Int32.ofNat 0 = 0 := rfl
  rcases he with rfl | rfl
  · rw [if_pos (rfl : 0 = 0), if_pos (rfl : 0 = 0)]
    refine gen (fr k) (to k) y1 y2 (fun z hz => ?_) ?_ ?_ (Or.inl ⟨rfl, rfl⟩)
    · rw [if_pos z00, l1] at hz; exact (Option.some.inj hz).symm
    · rw [if_pos z00, l1]; rfl
    · rw [if_pos z00, l2]; rfl
  · rw [if_neg (by omega : ¬ 1 = 0), if_neg (by omega : ¬ 1 = 0)]
    refine gen (to k) (fr k) y2 y1 (fun z hz => ?_) ?_ ?_ (Or.inr ⟨rfl, rfl⟩)
    · rw [if_neg n10, l2] at hz; exact (Option.some.inj hz).symm
    · rw [if_neg n10, l2]; rfl
    · rw [if_neg n10, l1]; rfl
/-- a pass over all lanes -/
theorem wa_26 {q7 : Int32 → Int32 → Int32 → Int32 → hq_S → Option (Int32 × hq_S)} {a t : Nat} (hN : 10 < N) : ∀ (q k m B R : Nat) (r : Nat → Nat) (a4 : Int32) (s : hq_S), k + q = nl → q < m → wa_M nl nc bar fr to on f s → wa_J nl nc bar a fr to on f r R B s → (a4 = 0 ∨ a4 = 1) → ∃ (B' R' : Nat) (r' : Nat → Nat) (a4' : Int32) (s' : hq_S), f_X12_findsOne_L26 N q7 m (Int32.ofNat a) (Int32.ofNat t) (Int32.ofNat B) a4 (Int32.ofNat k) s = q7 (Int32.ofNat a) (Int32.ofNat t) (Int32.ofNat B') a4' s' ∧ wa_J nl nc bar a fr to on f r' R' B' s' ∧ (∀ c i, ¬ c = 220 → hq_gi s' c i = hq_gi s c i) ∧ B ≤ B' ∧ ((a4' = 1 ∧ (a4 = 1 ∨ B < B')) ∨ (a4' = 0 ∧ a4 = 0 ∧ B' = B ∧ ∀ j, k ≤ j → j < nl → wa_no bar fr to on f B j)) := by
  intro q
  induction q with
  | zero =>
    intro k m B R r a4 s hk hm M J h4
    obtain ⟨m, rfl⟩ : ∃ j, m = j + 1 := ⟨m - 1, by omega⟩
    have n20 := M.1.2.1
    have l0 : hq_ld s 176 14 1 = some (Int32.ofNat nl) := by rw [nb_lit 1, nn_ld (by omega) (by omega), M.1.2.2.2.1]
    have c : ¬ Int32.ofNat k < Int32.ofNat nl := by rw [nn_lt (by omega) (by omega)]; omega
    refine ⟨B, R, r, a4, s, by simp only [f_X12_findsOne_L26_s, f_X12_findsOne_L26_B, l0, Option.bind_some, if_neg c], J, fun _ _ _ => rfl, Nat.le_refl _, ?_⟩
    rcases h4 with rfl | rfl
    · exact Or.inr ⟨rfl, rfl, rfl, fun j h1 h2 => by omega⟩
    · exact Or.inl ⟨rfl, Or.inl rfl⟩
  | succ q ih =>
    intro k m B R r a4 s hk hm M J h4
    obtain ⟨m, rfl⟩ : ∃ j, m = j + 1 := ⟨m - 1, by omega⟩
    obtain ⟨n, rfl⟩ : ∃ j, N = j + 3 := ⟨N - 3, by omega⟩
    have n20 := M.1.2.1
    have l0 : hq_ld s 176 14 1 = some (Int32.ofNat nl) := by rw [nb_lit 1, nn_ld (by omega) (by omega), M.1.2.2.2.1]
    have c : Int32.ofNat k < Int32.ofNat nl := (nn_lt (by omega) (by omega)).mpr (by omega)
    obtain ⟨B1, R1, r1, x1, s1, e1, J1, k1, w1⟩ := wa_end (N := n + 3) (q7 := q7) (q26 := f_X12_findsOne_L26 (n + 3) q7 m) (t := t) (m := n + 2) (a4 := a4) (k := k) (e := 0) (by omega) (Or.inl rfl) M J
    have M1 := wa_M_k k1 M
    obtain ⟨B2, R2, r2, x2, s2, e2, J2, k2, w2⟩ := wa_end (N := n + 3) (q7 := q7) (q26 := f_X12_findsOne_L26 (n + 3) q7 m) (t := t) (m := n + 1) (a4 := x1) (k := k) (e := 1) (by omega) (Or.inr rfl) M1 J1
    have M2 := wa_M_k k2 M1
    have x1' : x1 = 0 ∨ x1 = 1 := by
      rcases w1 with ⟨h, -⟩ | ⟨h, -⟩
      · exact Or.inr h
      · rw [h]; exact h4
    have x2' : x2 = 0 ∨ x2 = 1 := by
      rcases w2 with ⟨h, -⟩ | ⟨h, -⟩
      · exact Or.inr h
      · rw [h]; exact x1'
    obtain ⟨B3, R3, r3, x3, s3, e3, J3, k3, b3, w3⟩ := ih (k + 1) m B2 R2 r2 x2 s2 (by omega) (by omega) M2 J2 x2'
    have c2 : ¬ Int32.ofNat (1 + 1) < (2 : Int32) := by decide
    have e1 : f_X12_findsOne_L40 (n + 3) q7 (f_X12_findsOne_L26 (n + 3) q7 m) (n + 3) (Int32.ofNat a) (Int32.ofNat t) (Int32.ofNat B) a4 (Int32.ofNat k) 0 s = _ := e1
    refine ⟨B3, R3, r3, x3, s3, ?_, J3, fun c i h => ((k3 c i h).trans (k2 c i h)).trans (k1 c i h), ?_, ?_⟩
    · rw [← e3]
      simp only [f_X12_findsOne_L26_s, f_X12_findsOne_L26_B, l0, Option.bind_some, if_pos c]
      rw [e1]
      show f_X12_findsOne_L40 (n + 3) q7 (f_X12_findsOne_L26 (n + 3) q7 m) (n + 1 + 1) (Int32.ofNat a) (Int32.ofNat t) (Int32.ofNat B1) x1 (Int32.ofNat k) (Int32.ofNat 1) s1 = _
      rw [e2]
      simp only [f_X12_findsOne_L40_s, f_X12_findsOne_L40_B, if_neg c2, nn_succ]
    · rcases w1 with ⟨-, h1⟩ | ⟨-, h1, -⟩ <;> rcases w2 with ⟨-, h2⟩ | ⟨-, h2, -⟩ <;> omega
    · rcases w3 with ⟨g1, g2⟩ | ⟨g1, g2, g3, g4⟩
      · refine Or.inl ⟨g1, ?_⟩
        rcases w2 with ⟨-, h2⟩ | ⟨h2, h2', -⟩
        · refine Or.inr ?_
          rcases w1 with ⟨-, h1⟩ | ⟨-, h1, -⟩ <;> omega
        · rcases w1 with ⟨-, h1⟩ | ⟨h1, h1', -⟩
          · exact Or.inr (by omega)
          · rcases g2 with g2 | g2
            · left
              rw [← h1, ← h2]; exact g2
            · exact Or.inr (by omega)
      · rcases w2 with ⟨h2, -⟩ | ⟨h2, h2', h2''⟩
        · rw [g2] at h2; exact absurd h2 (by decide)
        · rcases w1 with ⟨h1, -⟩ | ⟨h1, h1', h1''⟩
          · rw [← h2, g2] at h1; exact absurd h1 (by decide)
          · subst h1'
            subst h2'
            refine Or.inr ⟨g1, by rw [← h1, ← h2]; exact g2, g3, fun j j1 j2 => ?_⟩
            by_cases ej : j = k
            · subst ej
              rw [if_pos (rfl : 0 = 0), if_pos (rfl : 0 = 0)] at h1''
              rw [if_neg (by omega : ¬ 1 = 0), if_neg (by omega : ¬ 1 = 0)] at h2''
              exact ⟨h1'', h2''⟩
            · exact g4 j (by omega) j2
/-- until nothing is added, or t is come to -/
theorem wa_7 {a t : Nat} (hN : 30 < N) (ht : t < nc) : ∀ (q m B R : Nat) (r : Nat → Nat) (a4 : Int32) (s : hq_S), B + q = 1024 → q < m → wa_M nl nc bar fr to on f s → wa_J nl nc bar a fr to on f r R B s → (a4 = 1 ∨ (a4 = 0 ∧ ∀ j, j < nl → wa_no bar fr to on f B j)) → ∃ (B' R' : Nat) (r' : Nat → Nat) (s' : hq_S), f_X12_findsOne_L7 N m (Int32.ofNat a) (Int32.ofNat t) (Int32.ofNat B) a4 s = some (if B'.testBit t = true then 1 else 0, s') ∧ wa_J nl nc bar a fr to on f r' R' B' s' ∧ (∀ c i, ¬ c = 220 → hq_gi s' c i = hq_gi s c i) ∧ (B'.testBit t = false → ∀ j, j < nl → wa_no bar fr to on f B' j) := by
  intro q
  induction q using Nat.strongRecOn with
  | ind q ih =>
    intro m B R r a4 s hB hm M J h4
    obtain ⟨m, rfl⟩ : ∃ j, m = j + 1 := ⟨m - 1, by omega⟩
    have hB2 : B < 1024 := nb_1024 M.1.1 J.1
    have hnc := M.1.1
    have b0 := nb_bit0 (show B < 2147483648 by omega) (show t < 32 by omega)
    have b1 := nb_bit1 (show B < 2147483648 by omega) (show t < 32 by omega)
    have d10 : ¬ (1 : Int32) = 0 := by decide
    have J161 : ∀ z, f_X12_findsOne_J161 N (Int32.ofNat a) (Int32.ofNat t) (Int32.ofNat B) z s = some (if B.testBit t = true then 1 else 0, s) := fun z => by
      by_cases q : B.testBit t = true
      · simp only [f_X12_findsOne_J161, b1, if_pos q]
      · simp only [f_X12_findsOne_J161, b1, if_neg q]
    rcases h4 with rfl | ⟨rfl, h4⟩
    · by_cases q1 : B.testBit t = false
      · obtain ⟨B', R', r', x, s', e1, J', k1, le, w⟩ := wa_26 (N := N) (q7 := f_X12_findsOne_L7 N m) (t := t) (by omega) nl 0 N B R r 0 s (by omega) (by have := M.1.2.1; omega) M J (Or.inl rfl)
        have e1 : f_X12_findsOne_L26 N (f_X12_findsOne_L7 N m) N (Int32.ofNat a) (Int32.ofNat t) (Int32.ofNat B) 0 0 s = _ := e1
        have M' := wa_M_k k1 M
        have B'2 : B' < 1024 := nb_1024 hnc J'.1
        rcases w with ⟨rfl, w⟩ | ⟨rfl, -, rfl, w⟩
        · have lt : B < B' := by
            rcases w with w | w
            · exact absurd w (by decide)
            · exact w
          obtain ⟨B2, R2, r2, s2, e2, J2, k2, w2⟩ := ih (1024 - B') (by omega) m B' R' r' 1 s' (by omega) (by omega) M' J' (Or.inl rfl)
          refine ⟨B2, R2, r2, s2, ?_, J2, fun c i h => (k2 c i h).trans (k1 c i h), w2⟩
          rw [← e2, ← e1]
          simp only [f_X12_findsOne_L7_s, f_X12_findsOne_L7_B, if_neg d10, b0, if_pos q1]
        · -- nothing was added
          have e0 : ∃ m', m = m' + 1 := ⟨m - 1, by omega⟩
          obtain ⟨m', rfl⟩ := e0
          refine ⟨B', R', r', s', ?_, J', k1, fun _ j hj => w j (by omega) hj⟩
          have st : f_X12_findsOne_L7 N (m' + 1 + 1) (Int32.ofNat a) (Int32.ofNat t) (Int32.ofNat B') 1 s = f_X12_findsOne_L26 N (f_X12_findsOne_L7 N (m' + 1)) N (Int32.ofNat a) (Int32.ofNat t) (Int32.ofNat B') 0 0 s := by
            rw [f_X12_findsOne_L7_s]
            simp only [f_X12_findsOne_L7_B, if_neg d10, b0, if_pos q1]
          rw [st, e1]
          rw [f_X12_findsOne_L7_s]
          by_cases q : B'.testBit t = true
          · simp only [f_X12_findsOne_L7_B, f_X12_findsOne_J161, if_true, b1, if_pos q]
          · simp only [f_X12_findsOne_L7_B, f_X12_findsOne_J161, if_true, b1, if_neg q]
      · refine ⟨B, R, r, s, ?_, J, fun _ _ _ => rfl, fun h => absurd h q1⟩
        simp only [f_X12_findsOne_L7_s, f_X12_findsOne_L7_B, if_neg d10, b0, if_neg q1, J161]
    · refine ⟨B, R, r, s, ?_, J, fun _ _ _ => rfl, fun _ => h4⟩
      simp only [f_X12_findsOne_L7_s, f_X12_findsOne_L7_B, if_true, J161]
theorem wa_find {a t : Nat} (hN : 1100 < N) (ha : a < nc) (ht : t < nc) (M : wa_M nl nc bar fr to on f s) : ∃ (B R : Nat) (r : Nat → Nat) (s' : hq_S), f_X12_findsOne N (Int32.ofNat a) (Int32.ofNat t) s = some (if B.testBit t = true then 1 else 0, s') ∧ wa_J nl nc bar a fr to on f r R B s' ∧ (∀ c i, ¬ c = 220 → hq_gi s' c i = hq_gi s c i) ∧ (B.testBit t = false → ∀ j, j < nl → wa_no bar fr to on f B j) := by
  have hnc := M.1.1
  have h1 : 2 ^ a < 2 ^ nc := nb_2lt ha
  have h2 := nb_1024 hnc h1
  have h3 : 0 < 2 ^ a := Nat.two_pow_pos a
  have one : ∀ b, (2 ^ a).testBit b = true → b = a := fun b hb => by
    rw [nb_2p] at hb
    exact (of_decide_eq_true hb).symm
  have J : wa_J nl nc bar a fr to on f (fun _ => 0) 1 (2 ^ a) s := ⟨h1, by rw [nb_2p]; exact decide_eq_true rfl, by omega, fun b _ => Nat.zero_lt_one, fun b hb nb => absurd (one b hb) nb⟩
  obtain ⟨B, R, r, s', e, w⟩ := wa_7 (N := N) (a := a) (by omega) ht (1024 - 2 ^ a) N (2 ^ a) 1 (fun _ => 0) 1 s (by omega) (by omega) M J (Or.inl rfl)
  refine ⟨B, R, r, s', ?_, w⟩
  rw [← e]
  unfold f_X12_findsOne
  rw [nb_one (by omega)]
end
