/-! WAY: rings are how far -/
def ws_n (nx : Nat → Nat) (nc : Nat) : Nat → Nat → Nat → Prop
  | 0, a, b => a = b
  | d + 1, a, b => ∃ c, c < nc ∧ ws_n nx nc d a c ∧ (nx c).testBit b = true
section
variable {nx : Nat → Nat} {nc : Nat}
theorem bf_any_t {e b : Nat} : ∀ n, (bf_any nx e n).testBit b = true ↔ ∃ c, c < n ∧ e.testBit c = true ∧ (nx c).testBit b = true := by
  intro n
  induction n with
  | zero => rw [bf_any, Nat.zero_testBit]; exact ⟨fun h => (by cases h), fun ⟨c, h, _⟩ => by omega⟩
  | succ n ih =>
    rw [bf_any, Nat.testBit_or, Bool.or_eq_true, ih]
    constructor
    · rintro (⟨c, h1, h2, h3⟩ | h)
      · exact ⟨c, by omega, h2, h3⟩
      · by_cases q : e.testBit n = true
        · rw [if_pos q] at h; exact ⟨n, by omega, q, h⟩
        · rw [if_neg q, Nat.zero_testBit] at h; cases h
    · rintro ⟨c, h1, h2, h3⟩
      by_cases q : c = n
      · subst q
        exact Or.inr (by rw [if_pos h2]; exact h3)
      · exact Or.inl ⟨c, by omega, h2, h3⟩
/-- what is found: how few, or none -/
def ws_fin (nx : Nat → Nat) (nc a : Nat) (row : Nat → Nat) : Prop := ∀ b, (∃ d, d < 10 ∧ row b = d ∧ ws_n nx nc d a b ∧ ∀ d', d' < d → ¬ ws_n nx nc d' a b) ∨ (row b = 99 ∧ ∀ d, ¬ ws_n nx nc d a b)
theorem bf_fin (hx : ∀ c, nx c < 2 ^ nc) {a : Nat} : ∀ (f been e d : Nat) (row : Nat → Nat), nb_cnt been nc ≤ f → d + f ≤ 10 → e < 2 ^ nc → (∀ b, been.testBit b = true ↔ ∃ d', d' < d ∧ ws_n nx nc d' a b) → (∀ b, e.testBit b = true ↔ (ws_n nx nc d a b ∧ been.testBit b = false)) → (∀ b, been.testBit b = true → ∃ d', d' < d ∧ row b = d' ∧ ws_n nx nc d' a b ∧ ∀ d2, d2 < d' → ¬ ws_n nx nc d2 a b) → (∀ b, been.testBit b = false → row b = 99) → ws_fin nx nc a (bf_go nx nc f been e d row) := by
  -- where the edge is empty nothing more is reached
  have stop : ∀ (been d : Nat) (row : Nat → Nat), d ≤ 10 → (∀ b, been.testBit b = true ↔ ∃ d', d' < d ∧ ws_n nx nc d' a b) → (∀ b, ¬ (ws_n nx nc d a b ∧ been.testBit b = false)) → (∀ b, been.testBit b = true → ∃ d', d' < d ∧ row b = d' ∧ ws_n nx nc d' a b ∧ ∀ d2, d2 < d' → ¬ ws_n nx nc d2 a b) → (∀ b, been.testBit b = false → row b = 99) → ws_fin nx nc a row := by
    intro been d row hd i1 i2 i3 i4
    have all : ∀ d' b, ws_n nx nc d' a b → been.testBit b = true := by
      intro d'
      induction d' with
      | zero =>
        intro b hb
        by_cases q : 0 < d
        · exact (i1 b).mpr ⟨0, q, hb⟩
        · have d0 : d = 0 := by omega
          subst d0
          cases h : been.testBit b with
          | true => rfl
          | false => exact absurd ⟨hb, h⟩ (i2 b)
      | succ d' ih =>
        intro b hb
        obtain ⟨c, c1, c2, c3⟩ := hb
        obtain ⟨d2, q1, q2⟩ := (i1 c).mp (ih c c2)
        have w : ws_n nx nc (d2 + 1) a b := ⟨c, c1, q2, c3⟩
        by_cases q : d2 + 1 < d
        · exact (i1 b).mpr ⟨d2 + 1, q, w⟩
        · have e : d2 + 1 = d := by omega
          rw [e] at w
          cases h : been.testBit b with
          | true => rfl
          | false => exact absurd ⟨w, h⟩ (i2 b)
    intro b
    cases h : been.testBit b with
    | true =>
      obtain ⟨d', q1, q2, q3, q4⟩ := i3 b h
      exact Or.inl ⟨d', by omega, q2, q3, q4⟩
    | false => exact Or.inr ⟨i4 b h, fun d' hd' => by rw [all d' b hd'] at h; cases h⟩
  intro f
  induction f with
  | zero =>
    intro been e d row hf hd he i1 i2 i3 i4
    have z : e = 0 := by
      by_cases q : e = 0
      · exact q
      · obtain ⟨i, hi⟩ := nb_ne0 q
        have h1 := nb_cnt_0 (Nat.le_zero.mp hf) i (nb_tlt he hi)
        rw [((i2 i).mp hi).2] at h1
        cases h1
    exact stop been d row (by omega) i1 (fun b h => by have := (i2 b).mpr h; rw [z, Nat.zero_testBit] at this; cases this) i3 i4
  | succ f ih =>
    intro been e d row hf hd he i1 i2 i3 i4
    rw [bf_go]
    by_cases z : e = 0
    · rw [if_pos z]
      exact stop been d row (by omega) i1 (fun b h => by have := (i2 b).mpr h; rw [z, Nat.zero_testBit] at this; cases this) i3 i4
    · rw [if_neg z]
      obtain ⟨i0, hi0⟩ := nb_ne0 z
      have hlt := nb_cnt_lt hi0 ((i2 i0).mp hi0).2 nc (nb_tlt he hi0)
      have b1 : ∀ b, (been ||| e).testBit b = true ↔ ∃ d', d' < d + 1 ∧ ws_n nx nc d' a b := fun b => by
        rw [Nat.testBit_or, Bool.or_eq_true]
        constructor
        · rintro (h | h)
          · obtain ⟨d', q1, q2⟩ := (i1 b).mp h
            exact ⟨d', by omega, q2⟩
          · exact ⟨d, by omega, ((i2 b).mp h).1⟩
        · rintro ⟨d', q1, q2⟩
          by_cases q : d' < d
          · exact Or.inl ((i1 b).mpr ⟨d', q, q2⟩)
          · have e' : d' = d := by omega
            subst e'
            cases h : been.testBit b with
            | true => exact Or.inl rfl
            | false => exact Or.inr ((i2 b).mpr ⟨q2, h⟩)
      refine ih _ _ _ _ (by omega) (by omega) (nb_df_lt (bf_any_lt hx nc)) b1 (fun b => ?_) (fun b hb => ?_) (fun b hb => ?_)
      · rw [nb_df_t, Bool.and_eq_true, bf_any_t, Bool.not_eq_true']
        constructor
        · rintro ⟨⟨c, c1, c2, c3⟩, h⟩
          exact ⟨⟨c, c1, ((i2 c).mp c2).1, c3⟩, h⟩
        · rintro ⟨⟨c, c1, c2, c3⟩, h⟩
          refine ⟨⟨c, c1, ?_, c3⟩, h⟩
          cases hc : been.testBit c with
          | false => exact (i2 c).mpr ⟨c2, hc⟩
          | true =>
            obtain ⟨d', q1, q2⟩ := (i1 c).mp hc
            have := (b1 b).mpr ⟨d' + 1, by omega, c, c1, q2, c3⟩
            rw [h] at this
            cases this
      · show ∃ d', d' < d + 1 ∧ (if e.testBit b = true then d else row b) = d' ∧ _
        by_cases q : e.testBit b = true
        · rw [if_pos q]
          refine ⟨d, by omega, rfl, ((i2 b).mp q).1, fun d2 hd2 h => ?_⟩
          have := (i1 b).mpr ⟨d2, hd2, h⟩
          rw [((i2 b).mp q).2] at this
          cases this
        · rw [if_neg q]
          rw [Nat.testBit_or, Bool.or_eq_true] at hb
          obtain ⟨d', q1, q2⟩ := i3 b (hb.resolve_right q)
          exact ⟨d', by omega, q2⟩
      · rw [Nat.testBit_or, Bool.or_eq_false_iff] at hb
        show (if e.testBit b = true then d else row b) = 99
        rw [if_neg (by rw [hb.2]; decide)]
        exact i4 b hb.1
theorem bf_far_fin (hnc : nc ≤ 10) (hx : ∀ c, nx c < 2 ^ nc) {a : Nat} (ha : a < nc) : ws_fin nx nc a (bf_far nx nc a) := by
  refine bf_fin hx 10 0 (2 ^ a) 0 (fun _ => 99) (Nat.le_trans (nb_cnt_le 0 nc) hnc) (by omega) (nb_2lt ha) (fun b => ?_) (fun b => ?_) (fun b hb => ?_) (fun b _ => rfl)
  · rw [Nat.zero_testBit]
    exact ⟨fun h => (by cases h), fun ⟨d', h, _⟩ => by omega⟩
  · rw [nb_2p, Nat.zero_testBit]
    exact ⟨fun h => ⟨(of_decide_eq_true h : a = b), rfl⟩, fun h => decide_eq_true (show a = b from h.1)⟩
  · rw [Nat.zero_testBit] at hb; cases hb
theorem ws_cons (hx : ∀ c, nx c < 2 ^ nc) : ∀ (d a b : Nat), ws_n nx nc (d + 1) a b → ∃ c, c < nc ∧ (nx a).testBit c = true ∧ ws_n nx nc d c b := by
  intro d
  induction d with
  | zero =>
    rintro a b ⟨c, c1, c2, c3⟩
    have c2 : a = c := c2
    subst c2
    exact ⟨b, nb_tlt (hx a) c3, c3, rfl⟩
  | succ d ih =>
    rintro a b ⟨c, c1, c2, c3⟩
    obtain ⟨c', q1, q2, q3⟩ := ih a c c2
    exact ⟨c', q1, q2, c, c1, q3, c3⟩
theorem ws_step {a c : Nat} (ha : a < nc) (h : (nx a).testBit c = true) : ∀ (d b : Nat), ws_n nx nc d c b → ws_n nx nc (d + 1) a b := by
  intro d
  induction d with
  | zero =>
    intro b hb
    have hb : c = b := hb
    subst hb
    exact ⟨a, ha, rfl, h⟩
  | succ d ih =>
    rintro b ⟨e, e1, e2, e3⟩
    exact ⟨e, e1, ih e e2, e3⟩
theorem bf_le {a b d : Nat} (hnc : nc ≤ 10) (hx : ∀ c, nx c < 2 ^ nc) (ha : a < nc) (h : ws_n nx nc d a b) : bf_far nx nc a b ≤ d ∧ bf_far nx nc a b < 10 := by
  rcases bf_far_fin hnc hx ha b with ⟨d', q1, q2, q3, q4⟩ | ⟨q1, q2⟩
  · rw [q2]
    refine ⟨?_, q1⟩
    by_cases q : d' ≤ d
    · exact q
    · exact absurd h (q4 d (by omega))
  · exact absurd h (q2 d)
/-- from a corner that isn't there yet one goes on, one lane nearer -/
theorem bf_on {a b : Nat} (hnc : nc ≤ 10) (hx : ∀ c, nx c < 2 ^ nc) (ha : a < nc) (h0 : ¬ bf_far nx nc a b = 0) (h9 : ¬ bf_far nx nc a b = 99) : (∃ c, c < nc ∧ (nx a).testBit c = true ∧ bf_far nx nc c b < bf_far nx nc a b) ∧ ∀ c, c < nc → (nx a).testBit c = true → bf_far nx nc c b < bf_far nx nc a b → bf_far nx nc c b + 1 = bf_far nx nc a b := by
  rcases bf_far_fin hnc hx ha b with ⟨d, q1, q2, q3, q4⟩ | ⟨q1, q2⟩
  · obtain ⟨d, rfl⟩ : ∃ k, d = k + 1 := ⟨d - 1, by omega⟩
    obtain ⟨c, c1, c2, c3⟩ := ws_cons hx d a b q3
    refine ⟨⟨c, c1, c2, by have := bf_le hnc hx c1 c3; omega⟩, fun c c1 c2 c3 => ?_⟩
    rcases bf_far_fin hnc hx c1 b with ⟨e, e1, e2, e3, e4⟩ | ⟨e1, e2⟩
    · have := bf_le hnc hx ha (ws_step ha c2 e b e3)
      omega
    · omega
  · exact absurd q1 h9
end
theorem hg_on {N nc u : Nat} {nx : Nat → Nat} {fa : Nat → Nat → Nat} {sx sm : hq_S} (hN : 10 < N) (hnc : nc ≤ 10) (hx : ∀ c, nx c < 2 ^ nc) (hF : ∀ a b, fa a b ≤ 99) (X : hl_S u nc nx sx) (R : hl_R nc nx sm) (fx : ∀ a b, a < nc → b < nc → hq_gi sx (u + 2) (10 * a + b) = Int32.ofNat (fa a b)) (fm : ∀ a b, a < nc → b < nc → hq_gi sm 207 (10 * a + b) = Int32.ofNat (fa a b)) {a b : Nat} (ha : a < nc) (hb : b < nc) : (f_X8_onward N u (Int32.ofNat a) (Int32.ofNat b) sx = some (-1, sx) ∧ f_X12_nearer N (Int32.ofNat a) (Int32.ofNat b) sm = some (Int32.ofNat a, sm) ∧ ∀ c, c < nc → (nx a).testBit c = true → ¬ fa c b < fa a b) ∨ ∃ c, c < nc ∧ fa c b < fa a b ∧ (nx a).testBit c = true ∧ f_X8_onward N u (Int32.ofNat a) (Int32.ofNat b) sx = some (Int32.ofNat c, sx) ∧ f_X12_nearer N (Int32.ofNat a) (Int32.ofNat b) sm = some (Int32.ofNat c, sm) := by
  have n2 := R.1
  have hxa := nb_1024 hnc (hx a)
  have la : hq_ld sx (u + 1) 10 (Int32.ofNat a) = some (Int32.ofNat (nx a)) := by rw [nn_ld (by omega) (by omega), X.2 a (by omega)]
  have lb : hq_ld sm 206 10 (Int32.ofNat a) = some (Int32.ofNat (nx a)) := by rw [nn_ld (by omega) (by omega), R.2 a (by omega)]
  have l0 : hq_ld sm 176 14 0 = some (Int32.ofNat nc) := by rw [nb_0, nn_ld (by omega) (by omega), n2]
  have lx : ∀ c, c < nc → hq_ld sx (u + 2) 100 (Int32.ofNat (10 * c + b)) = some (Int32.ofNat (fa c b)) := fun c hc => by rw [nn_ld (by omega) (by omega), fx c b hc hb]
  have lm : ∀ c, c < nc → hq_ld sm 207 100 (Int32.ofNat (10 * c + b)) = some (Int32.ofNat (fa c b)) := fun c hc => by rw [nn_ld (by omega) (by omega), fm c b hc hb]
  have key : ∀ (q j m m' : Nat), j + q = nc → q < m → q < m' → (∀ c, c < j → (nx a).testBit c = true → ¬ fa c b < fa a b) → (f_X8_onward_L2 N m u (Int32.ofNat a) (Int32.ofNat b) (Int32.ofNat j) sx = some (-1, sx) ∧ f_X12_nearer_L2 N m' (Int32.ofNat a) (Int32.ofNat b) (Int32.ofNat j) sm = some (Int32.ofNat a, sm) ∧ ∀ c, c < nc → (nx a).testBit c = true → ¬ fa c b < fa a b) ∨ ∃ c, c < nc ∧ fa c b < fa a b ∧ (nx a).testBit c = true ∧ f_X8_onward_L2 N m u (Int32.ofNat a) (Int32.ofNat b) (Int32.ofNat j) sx = some (Int32.ofNat c, sx) ∧ f_X12_nearer_L2 N m' (Int32.ofNat a) (Int32.ofNat b) (Int32.ofNat j) sm = some (Int32.ofNat c, sm) := by
    intro q
    induction q with
    | zero =>
      intro j m m' hj hm hm' hp
      obtain ⟨m, rfl⟩ : ∃ k, m = k + 1 := ⟨m - 1, by omega⟩
      obtain ⟨m', rfl⟩ : ∃ k, m' = k + 1 := ⟨m' - 1, by omega⟩
      have hj : j = nc := by omega
      subst hj
      have c : ¬ Int32.ofNat j < Int32.ofNat j := by rw [nn_lt (by omega) (by omega)]; omega
      refine Or.inl ⟨?_, ?_, hp⟩
      · simp only [f_X8_onward_L2_s, f_X8_onward_L2_B, X.1, if_neg c]
      · simp only [f_X12_nearer_L2_s, f_X12_nearer_L2_B, l0, Option.bind_some, if_neg c]
    | succ q ih =>
      intro j m m' hj hm hm' hp
      obtain ⟨m, rfl⟩ : ∃ k, m = k + 1 := ⟨m - 1, by omega⟩
      obtain ⟨m', rfl⟩ : ∃ k, m' = k + 1 := ⟨m' - 1, by omega⟩
      have c : Int32.ofNat j < Int32.ofNat nc := (nn_lt (by omega) (by omega)).mpr (by omega)
      have b1 := nb_bit1 (show nx a < 2147483648 by omega) (show j < 32 by omega)
      have h1 := hF j b
      have h2 := hF a b
      have lt1 := nb_ltp (show fa j b < 2147483648 by omega) (show fa a b < 2147483648 by omega)
      have lxj := lx j (by omega)
      have lxa := lx a ha
      have lmj := lm j (by omega)
      have lma := lm a ha
      have step : ¬ ((nx a).testBit j = true ∧ fa j b < fa a b) → f_X8_onward_L2 N (m + 1) u (Int32.ofNat a) (Int32.ofNat b) (Int32.ofNat j) sx = f_X8_onward_L2 N m u (Int32.ofNat a) (Int32.ofNat b) (Int32.ofNat (j + 1)) sx ∧ f_X12_nearer_L2 N (m' + 1) (Int32.ofNat a) (Int32.ofNat b) (Int32.ofNat j) sm = f_X12_nearer_L2 N m' (Int32.ofNat a) (Int32.ofNat b) (Int32.ofNat (j + 1)) sm := by
        intro hn
        by_cases q1 : (nx a).testBit j = true
        · have q2 : ¬ fa j b < fa a b := fun h => hn ⟨q1, h⟩
          constructor
          · simp only [f_X8_onward_L2_s, f_X8_onward_L2_B, f_X8_onward_J41, f_X8_lanesBetween, X.1, if_pos c, la, Option.bind_some, b1, if_pos q1, nb_10m, nb_add, lxj, lxa, lt1, if_neg q2, nn_succ]
          · simp only [f_X12_nearer_L2_s, f_X12_nearer_L2_B, f_X12_nearer_J53, l0, if_pos c, lb, Option.bind_some, b1, if_pos q1, nb_m10, nb_add, lmj, lma, lt1, if_neg q2, nn_succ]
        · constructor
          · simp only [f_X8_onward_L2_s, f_X8_onward_L2_B, f_X8_onward_J41, f_X8_lanesBetween, X.1, if_pos c, la, Option.bind_some, b1, if_neg q1, nn_succ]
          · simp only [f_X12_nearer_L2_s, f_X12_nearer_L2_B, f_X12_nearer_J53, l0, if_pos c, lb, Option.bind_some, b1, if_neg q1, nn_succ]
      by_cases q1 : (nx a).testBit j = true ∧ fa j b < fa a b
      · refine Or.inr ⟨j, by omega, q1.2, q1.1, ?_, ?_⟩
        · simp only [f_X8_onward_L2_s, f_X8_onward_L2_B, f_X8_onward_J41, f_X8_lanesBetween, X.1, if_pos c, la, Option.bind_some, b1, if_pos q1.1, nb_10m, nb_add, lxj, lxa, lt1, if_pos q1.2]
        · simp only [f_X12_nearer_L2_s, f_X12_nearer_L2_B, f_X12_nearer_J53, l0, if_pos c, lb, Option.bind_some, b1, if_pos q1.1, nb_m10, nb_add, lmj, lma, lt1, if_pos q1.2]
      · obtain ⟨s1, s2⟩ := step q1
        rw [s1, s2]
        exact ih (j + 1) m m' (by omega) (by omega) (by omega) (fun c hc ht => by
          by_cases q2 : c = j
          · subst q2
            exact fun h => q1 ⟨ht, h⟩
          · exact hp c (by omega) ht)
  exact key nc 0 N N (by omega) (by omega) (by omega) (fun c hc => by omega)
section
variable {HC : hq_S → Prop} {N : Nat}
theorem hs_op_16 (hc : hc_loc HC) (hN : 300 < N) (a1 a2 a3 : Int32) : hq_Sim (hR HC) (f_X11_way N a1 a2 a3) (f_X12_way N a1 a2 a3) := hs_mk hc (WX := w_X11_way) (WM := w_X12_way) (by decide) (by decide) (by decide) (fun _ _ => f_X11_way_fw) (fun _ _ => f_X12_way_fw) fun sx sm R => by
  obtain ⟨nc, nl, ng, nt, t, bar, fr, to, on, TT⟩ := R.2.2.2.2.2
  obtain ⟨I, T⟩ := hT_th 0 R.2.2.1 TT
  obtain ⟨sl, l1, lR, lF, lo⟩ := hp_lays (N := N) (by omega) I T
  obtain ⟨⟨t1, t2, t3⟩, Te, ⟨X, M, S, F, B, Bl⟩, -⟩ := T
  have Te0 := Te
  obtain ⟨⟨b1, b2, b3, b4⟩, ⟨c1, c2, -⟩, -⟩ := Te
  have d10 : ¬ (1 : Int32) = 0 := by decide
  have hx := ly_nx_lt (fr := fr) (to := to) (on := on) (bar := bar) (both := false) (nc := nc) (n := nl) fun k hk => ⟨(M.2.2.2.2 k hk).1, (M.2.2.2.2 k hk).2.1⟩
  rcases hs_isCorner (N := N) (a := a1) (by omega) t1 t2 c1 c2 with ⟨a, ha, rfl, e1, e2⟩ | ⟨e1, e2⟩
  · rcases hs_isCorner (N := N) (a := a2) (by omega) t1 t2 c1 c2 with ⟨b, hb, rfl, f1, f2⟩ | ⟨f1, f2⟩
    · by_cases h0 : a3 < 0
      · exact ⟨-1, sx, hq_si sm 174 0 0, by simp only [f_X11_way, e1, f1, Option.bind_some, if_neg d10, if_pos h0], by simp only [f_X12_way, nn_pi, e2, f2, Option.bind_some, if_neg d10, if_pos h0]⟩
      · obtain ⟨k, hk, rfl⟩ := nI_of h0
        have hk : k < 2147483648 := by omega
        have h0 : ¬ Int32.ofNat k < 0 := h0
        have hF := bf_far_lt (ly_nx fr to on bar false nl) nc
        have lx : hq_ld sx (103 + 2) 100 (Int32.ofNat (10 * a + b)) = some (Int32.ofNat (bf_far (ly_nx fr to on bar false nl) nc a b)) := by rw [nn_ld (by omega) (by omega)]; exact congrArg some (F a b ha hb)
        have lm : hq_ld sl 207 100 (Int32.ofNat (10 * a + b)) = some (Int32.ofNat (bf_far (ly_nx fr to on bar false nl) nc a b)) := by rw [nn_ld (by omega) (by omega), lF a b ha hb]
        have e99 : (Int32.ofNat (bf_far (ly_nx fr to on bar false nl) nc a b) = (99 : Int32)) = (bf_far (ly_nx fr to on bar false nl) nc a b = 99) := nb_eq (b := 99) (by have := hF a b; omega) (by omega)
        have lt := nb_ltp (show bf_far (ly_nx fr to on bar false nl) nc a b < 2147483648 by have := hF a b; omega) hk
        by_cases q9 : bf_far (ly_nx fr to on bar false nl) nc a b = 99
        · have r1 : f_X11_way N (Int32.ofNat a) (Int32.ofNat b) (Int32.ofNat k) sx = some (-2, sx) := by simp only [f_X11_way, f_X8_lanesBetween, e1, f1, Option.bind_some, if_neg d10, if_neg h0, nb_10m, nb_add, lx, e99, if_pos q9]
          have r2 : f_X12_way N (Int32.ofNat a) (Int32.ofNat b) (Int32.ofNat k) sm = some (-2, sl) := by simp only [f_X12_way, nn_pi, e2, f2, Option.bind_some, if_neg d10, if_neg h0, l1, nb_m10, nb_add, lm, e99, if_pos q9]
          exact ⟨-2, sx, sl, r1, r2⟩
        · by_cases qk : bf_far (ly_nx fr to on bar false nl) nc a b < k
          · have r1 : f_X11_way N (Int32.ofNat a) (Int32.ofNat b) (Int32.ofNat k) sx = some (-2, sx) := by simp only [f_X11_way, f_X8_lanesBetween, e1, f1, Option.bind_some, if_neg d10, if_neg h0, nb_10m, nb_add, lx, e99, if_neg q9, lt, if_pos qk]
            have r2 : f_X12_way N (Int32.ofNat a) (Int32.ofNat b) (Int32.ofNat k) sm = some (-2, sl) := by simp only [f_X12_way, nn_pi, e2, f2, Option.bind_some, if_neg d10, if_neg h0, l1, nb_m10, nb_add, lm, e99, if_neg q9, lt, if_pos qk]
            exact ⟨-2, sx, sl, r1, r2⟩
          · have hfa := hF a b
            have key : ∀ (q j m m' c : Nat) (a4 a4' : Int32), j + q = k → q < m → q < m' → c < nc → bf_far (ly_nx fr to on bar false nl) nc c b + j = bf_far (ly_nx fr to on bar false nl) nc a b → ∃ v, f_X11_way_L55 N m (Int32.ofNat a) (Int32.ofNat b) (Int32.ofNat k) a4 (Int32.ofNat c) (Int32.ofNat j) sx = some (v, sx) ∧ f_X12_way_L67 N m' (Int32.ofNat a) (Int32.ofNat b) (Int32.ofNat k) a4' (Int32.ofNat c) (Int32.ofNat j) sl = some (v, sl) := by
              intro q
              induction q with
              | zero =>
                intro j m m' c a4 a4' hj hm hm' hcc hd
                obtain ⟨m, rfl⟩ : ∃ k, m = k + 1 := ⟨m - 1, by omega⟩
                obtain ⟨m', rfl⟩ : ∃ k, m' = k + 1 := ⟨m' - 1, by omega⟩
                have cc : ¬ Int32.ofNat j < Int32.ofNat k := by rw [nn_lt (by omega) (by omega)]; omega
                exact ⟨Int32.ofNat c, by simp only [f_X11_way_L55_s, f_X11_way_L55_B, if_neg cc], by simp only [f_X12_way_L67_s, f_X12_way_L67_B, if_neg cc]⟩
              | succ q ih =>
                intro j m m' c a4 a4' hj hm hm' hcc hd
                obtain ⟨m, rfl⟩ : ∃ k, m = k + 1 := ⟨m - 1, by omega⟩
                obtain ⟨m', rfl⟩ : ∃ k, m' = k + 1 := ⟨m' - 1, by omega⟩
                have cc : Int32.ofNat j < Int32.ofNat k := (nn_lt (by omega) (by omega)).mpr (by omega)
                have n1 : ¬ Int32.ofNat c = -1 := fun z => nn_nlt0 (a := c) (by omega) (by rw [z]; decide)
                obtain ⟨o1, o2⟩ := bf_on (b := b) b1 hx hcc (by omega) (by omega)
                rcases hg_on (N := N) (u := 103) (by omega) b1 hx hF S lR F lF hcc hb with ⟨-, -, h3⟩ | ⟨c', hc', hlt, hbit, hex, h5⟩
                · obtain ⟨c', q1, q2, q3⟩ := o1
                  exact absurd q3 (h3 c' q1 q2)
                · obtain ⟨v, i1, i2⟩ := ih (j + 1) m m' c' a4 a4' (by omega) (by omega) (by omega) hc' (by have := o2 c' hc' hbit hlt; omega)
                  refine ⟨v, ?_, ?_⟩
                  · simp only [f_X11_way_L55_s, f_X11_way_L55_B, if_pos cc, if_neg n1, hex, Option.bind_some, nn_succ]
                    exact i1
                  · simp only [f_X12_way_L67_s, f_X12_way_L67_B, if_pos cc, h5, Option.bind_some, nn_succ]
                    exact i2
            obtain ⟨v, i1, i2⟩ := key k 0 N N a (Int32.ofNat (bf_far (ly_nx fr to on bar false nl) nc a b)) (Int32.ofNat (bf_far (ly_nx fr to on bar false nl) nc a b)) (by omega) (by omega) (by omega) ha (by omega)
            refine ⟨v, sx, sl, ?_, ?_⟩
            · show f_X11_way N (Int32.ofNat a) (Int32.ofNat b) (Int32.ofNat k) sx = _
              simp only [f_X11_way, f_X8_lanesBetween, e1, f1, Option.bind_some, if_neg d10, if_neg h0, nb_10m, nb_add, lx, e99, if_neg q9, lt, if_neg qk]
              exact i1
            · show f_X12_way N (Int32.ofNat a) (Int32.ofNat b) (Int32.ofNat k) sm = _
              simp only [f_X12_way, nn_pi, e2, f2, Option.bind_some, if_neg d10, if_neg h0, l1, nb_m10, nb_add, lm, e99, if_neg q9, lt, if_neg qk]
              exact i2
    · exact ⟨-1, sx, hq_si sm 174 0 0, by simp only [f_X11_way, e1, f1, Option.bind_some, if_neg d10, if_true], by simp only [f_X12_way, nn_pi, e2, f2, Option.bind_some, if_neg d10, if_true]⟩
  · exact ⟨-1, sx, hq_si sm 174 0 0, by simp only [f_X11_way, e1, Option.bind_some, if_true], by simp only [f_X12_way, nn_pi, e2, Option.bind_some, if_true]⟩
end
