/-! THE CLASS'S ROUND -/
/-- an array of sets of corners: in place S those of which Q holds -/
def bt (nc : Nat) (s : hq_S) (k : Nat) (Q : Nat → Nat → Prop) : Prop := ∀ S, S < 2 ^ nc → ∃ x, x < 2 ^ nc ∧ hq_gi s k S = Int32.ofNat x ∧ ∀ c, c < nc → (x.testBit c = true ↔ Q S c)
section
variable {N nc a : Nat} {nx : Nat → Nat}
theorem bt_cg {s s' : hq_S} {k : Nat} {Q Q' : Nat → Nat → Prop} (e : ∀ S, hq_gi s' k S = hq_gi s k S) (q : ∀ S c, S < 2 ^ nc → c < nc → (Q S c ↔ Q' S c)) (h : bt nc s k Q) : bt nc s' k Q' := fun S hS => by
  obtain ⟨x, h1, h2, h3⟩ := h S hS
  exact ⟨x, h1, by rw [e]; exact h2, fun c hc => (h3 c hc).trans (q S c hS hc)⟩
theorem bt_al {k : Nat} (hk : k = 160 ∨ k = 161 ∨ k = 162) : hq_alI k = some 1024 ∧ hq_alA k = some (Int32.ofNat 1024) := by
  rcases hk with rfl | rfl | rfl
  · exact ⟨sw_al.1.1, sw_al.2.1⟩
  · exact ⟨sw_al.1.2.1, sw_al.2.2.1⟩
  · exact ⟨sw_al.1.2.2, sw_al.2.2.2⟩
theorem bt_ld {s : hq_S} {k j : Nat} (hk : k = 160 ∨ k = 161 ∨ k = 162) (h : j < 1024) : hq_ldiA s k (Int32.ofNat j) = some (hq_gi s k j) := nn_ldiA (bt_al hk).1 h (by omega)
theorem bt_st {s : hq_S} {k j : Nat} {x : Int32} (hk : k = 160 ∨ k = 161 ∨ k = 162) (h : j < 1024) : hq_stiA s k (Int32.ofNat j) x = some (hq_si s k j x) := by
  unfold hq_stiA
  rw [(bt_al hk).1]
  exact nn_st h (by omega)
theorem nb_0t {x nc : Nat} (hx : x < 2 ^ nc) : x = 0 ↔ ∀ c, c < nc → ¬ x.testBit c = true := by
  constructor
  · intro h c _ z
    rw [h, Nat.zero_testBit] at z
    cases z
  · intro h
    apply nb_ext
    intro i
    rw [Nat.zero_testBit]
    cases z : x.testBit i with
    | false => rfl
    | true => exact absurd z (h i (nb_tlt hx z))
/-- one lane on -/
theorem go_10 {k r e : Nat} {Q : Nat → Nat → Prop} {a2 : Int32} (hk : k = 161 ∨ k = 162) (hnc : nc ≤ 10) (hr : r < 2 ^ nc) (he : e < 2 ^ nc) : ∀ (q c m : Nat) (s : hq_S), c + q = nc → q < m → hq_gi s 103 0 = Int32.ofNat nc → bt nc s k (fun S b => Q S b ∨ (b < c ∧ e.testBit b = true ∧ r ||| 2 ^ b = S)) → ∃ s', f_X7_goOn_L10 N m 103 (Int32.ofNat r) a2 k (Int32.ofNat e) (Int32.ofNat c) s = some s' ∧ bt nc s' k (fun S b => Q S b ∨ (e.testBit b = true ∧ r ||| 2 ^ b = S)) ∧ (∀ c i, ¬ c = k → hq_gi s' c i = hq_gi s c i) ∧ s'.2 = s.2 := by
  have p10 : (2 : Nat) ^ nc ≤ 1024 := Nat.pow_le_pow_right (by omega) (show nc ≤ 10 by omega)
  intro q
  induction q with
  | zero =>
    intro c m s hc hm h0 h
    obtain ⟨m, rfl⟩ : ∃ j, m = j + 1 := ⟨m - 1, by omega⟩
    have cc : ¬ Int32.ofNat c < Int32.ofNat nc := by rw [nn_lt (by omega) (by omega)]; omega
    refine ⟨s, by simp only [f_X7_goOn_L10_s, f_X7_goOn_L10_B, h0, if_neg cc], bt_cg (fun _ => rfl) (fun S b hS hb => ?_) h, fun _ _ _ => rfl, rfl⟩
    exact ⟨fun z => z.imp id fun z => z.2, fun z => z.imp id fun z => ⟨by omega, z⟩⟩
  | succ q ih =>
    intro c m s hc hm h0 h
    obtain ⟨m, rfl⟩ : ∃ j, m = j + 1 := ⟨m - 1, by omega⟩
    have cc : Int32.ofNat c < Int32.ofNat nc := (nn_lt (by omega) (by omega)).mpr (by omega)
    have b1 := nb_bit1 (show e < 2147483648 by omega) (show c < 32 by omega)
    have lt : r ||| 2 ^ c < 2 ^ nc := nb_lt_or hr (nb_2lt (by omega))
    by_cases q1 : e.testBit c = true
    · obtain ⟨x, x1, x2, x3⟩ := h (r ||| 2 ^ c) lt
      have ld : hq_ldiA s k (Int32.ofNat (r ||| 2 ^ c)) = some (Int32.ofNat x) := by rw [bt_ld (by omega) (by omega), x2]
      have st : hq_stiA s k (Int32.ofNat (r ||| 2 ^ c)) (Int32.ofNat (x ||| 2 ^ c)) = some (hq_si s k (r ||| 2 ^ c) (Int32.ofNat (x ||| 2 ^ c))) := bt_st (by omega) (by omega)
      obtain ⟨s', e1, e2, e3, e4⟩ := ih (c + 1) m (hq_si s k (r ||| 2 ^ c) (Int32.ofNat (x ||| 2 ^ c))) (by omega) (by omega) (by rw [nb_ii, if_neg (fun z => by omega)]; exact h0) (fun S hS => by
        by_cases z : S = r ||| 2 ^ c
        · refine ⟨x ||| 2 ^ c, nb_lt_or x1 (nb_2lt (by omega)), by rw [nb_ii, if_pos ⟨rfl, z⟩], fun b hb => ?_⟩
          rw [Nat.testBit_or, nb_2p, Bool.or_eq_true, x3 b hb, decide_eq_true_iff, z]
          constructor
          · rintro ((w | ⟨w1, w2⟩) | w)
            · exact Or.inl w
            · exact Or.inr ⟨by omega, w2⟩
            · rw [← w]; exact Or.inr ⟨by omega, q1, rfl⟩
          · rintro (w | ⟨w1, w2⟩)
            · exact Or.inl (Or.inl w)
            · by_cases e : c = b
              · exact Or.inr e
              · exact Or.inl (Or.inr ⟨by omega, w2⟩)
        · obtain ⟨y, y1, y2, y3⟩ := h S hS
          refine ⟨y, y1, by rw [nb_ii, if_neg (fun w => z w.2)]; exact y2, fun b hb => (y3 b hb).trans ?_⟩
          constructor
          · rintro (w | ⟨w1, w2⟩)
            · exact Or.inl w
            · exact Or.inr ⟨by omega, w2⟩
          · rintro (w | ⟨w1, w2⟩)
            · exact Or.inl w
            · by_cases e : c = b
              · rw [← e] at w2; exact absurd w2.2.symm z
              · exact Or.inr ⟨by omega, w2⟩)
      refine ⟨s', ?_, e2, fun c i hc => (e3 c i hc).trans (by rw [nb_ii, if_neg (fun z => hc z.1)]), e4⟩
      rw [← e1]
      simp only [f_X7_goOn_L10_s, f_X7_goOn_L10_B, h0, if_pos cc, b1, if_pos q1, nb_one (show c < 32 by omega), nb_or, ld, st, Option.bind_some, nn_succ]
    · obtain ⟨s', e1, e2⟩ := ih (c + 1) m s (by omega) (by omega) h0 (bt_cg (fun _ => rfl) (fun S b hS hb => by
        constructor
        · rintro (w | ⟨w1, w2⟩)
          · exact Or.inl w
          · exact Or.inr ⟨by omega, w2⟩
        · rintro (w | ⟨w1, w2⟩)
          · exact Or.inl w
          · by_cases e : c = b
            · rw [← e] at w2; exact absurd w2.1 q1
            · exact Or.inr ⟨by omega, w2⟩) h)
      refine ⟨s', ?_, e2⟩
      rw [← e1]
      simp only [f_X7_goOn_L10_s, f_X7_goOn_L10_B, h0, if_pos cc, b1, if_neg q1, Option.bind_some, nn_succ]
/-- from sets before r, one lane on -/
def ro_Q (nx : Nat → Nat) (nc a d r S b : Nat) : Prop := ∃ S' c', S' < r ∧ c' < nc ∧ S' ||| 2 ^ b = S ∧ re nx nc a d S' c' ∧ (nx c').testBit b = true
theorem ro_86 {q60 : Nat → Int32 → Int32 → Nat → Nat → Int32 → hq_S → Option (Int32 × hq_S)} {k5 k6 d : Nat} {a2 a7 : Int32} (hN : 1100 < N) (hk : (k5 = 161 ∧ k6 = 162) ∨ (k5 = 162 ∧ k6 = 161)) (hnc : nc ≤ 10) (hx : ∀ c, nx c < 2 ^ nc) : ∀ (q r m : Nat) (s : hq_S), r + q = 2 ^ nc → q < m → hl_S 103 nc nx s → bt nc s k5 (re nx nc a d) → bt nc s k6 (ro_Q nx nc a d r) → ∃ s', f_X7_lanesOfRound_L86 N q60 m 103 a2 (Int32.ofNat (2 ^ nc - 1)) k5 k6 a7 (Int32.ofNat r) s = f_X7_lanesOfRound_L122 N q60 N 103 a2 (Int32.ofNat (2 ^ nc - 1)) k5 k6 a7 0 s' ∧ bt nc s' k6 (ro_Q nx nc a d (2 ^ nc)) ∧ (∀ c i, ¬ c = k6 → hq_gi s' c i = hq_gi s c i) ∧ s'.2 = s.2 := by
  have p10 : (2 : Nat) ^ nc ≤ 1024 := Nat.pow_le_pow_right (by omega) (show nc ≤ 10 by omega)
  have p0 : 0 < (2 : Nat) ^ nc := Nat.two_pow_pos nc
  intro q
  induction q with
  | zero =>
    intro r m s hr hm L h5 h6
    obtain ⟨m, rfl⟩ : ∃ j, m = j + 1 := ⟨m - 1, by omega⟩
    have c : Int32.ofNat (2 ^ nc - 1) < Int32.ofNat r := (nn_lt (by omega) (by omega)).mpr (by omega)
    rw [show r = 2 ^ nc by omega] at h6
    exact ⟨s, by simp only [f_X7_lanesOfRound_L86_s, f_X7_lanesOfRound_L86_B, if_pos c], h6, fun _ _ _ => rfl, rfl⟩
  | succ q ih =>
    intro r m s hr hm L h5 h6
    obtain ⟨m, rfl⟩ : ∃ j, m = j + 1 := ⟨m - 1, by omega⟩
    have c : ¬ Int32.ofNat (2 ^ nc - 1) < Int32.ofNat r := by rw [nn_lt (by omega) (by omega)]; omega
    obtain ⟨x, x1, x2, x3⟩ := h5 r (by omega)
    have ld : hq_ldiA s k5 (Int32.ofNat r) = some (Int32.ofNat x) := by rw [bt_ld (by omega) (by omega), x2]
    have z0 : (Int32.ofNat x = 0) = (x = 0) := nb_eq0 (by omega)
    have Q1 : ∀ S b, ro_Q nx nc a d (r + 1) S b ↔ (ro_Q nx nc a d r S b ∨ ((bf_any nx x nc).testBit b = true ∧ r ||| 2 ^ b = S)) := fun S b => by
      rw [bf_any_t]
      constructor
      · rintro ⟨S', c', g1, g2, g3, g4, g5⟩
        by_cases e : S' = r
        · rw [e] at g3 g4
          exact Or.inr ⟨⟨c', g2, (x3 c' g2).mpr g4, g5⟩, g3⟩
        · exact Or.inl ⟨S', c', by omega, g2, g3, g4, g5⟩
      · rintro (⟨S', c', g1, g2⟩ | ⟨⟨c', g2, g4, g5⟩, g3⟩)
        · exact ⟨S', c', by omega, g2⟩
        · exact ⟨r, c', by omega, g2, g3, (x3 c' g2).mp g4, g5⟩
    by_cases q1 : x = 0
    · obtain ⟨s', e1, e2⟩ := ih (r + 1) m s (by omega) (by omega) L h5 (bt_cg (fun _ => rfl) (fun S b _ _ => by
        rw [Q1, bf_any_t, q1]
        constructor
        · exact Or.inl
        · rintro (w | ⟨⟨c', -, w, -⟩, -⟩)
          · exact w
          · rw [Nat.zero_testBit] at w; cases w) h6)
      refine ⟨s', ?_, e2⟩
      rw [← e1]
      simp only [f_X7_lanesOfRound_L86_s, f_X7_lanesOfRound_L86_B, if_neg c, ld, Option.bind_some, z0, if_pos q1, nn_succ]
    · have an := hb_any (N := N) (u := 103) (e := x) (s := s) (nx := nx) (by omega) hnc (by omega) L
      have al := bf_any_lt (e := x) hx nc
      obtain ⟨s1, f1, f2, f3, f4⟩ := go_10 (N := N) (k := k6) (r := r) (Q := ro_Q nx nc a d r) (a2 := Int32.ofNat x) (by omega) hnc (by omega) al nc 0 N s (by omega) (by omega) L.1 (bt_cg (fun _ => rfl) (fun S b _ _ => ⟨Or.inl, fun w => w.elim id fun w => by omega⟩) h6)
      have f1 : f_X7_goOn_L10 N N 103 (Int32.ofNat r) (Int32.ofNat x) k6 (Int32.ofNat (bf_any nx x nc)) 0 s = some s1 := f1
      obtain ⟨s', e1, e2, e3, e4⟩ := ih (r + 1) m s1 (by omega) (by omega) ⟨by rw [f3 _ _ (by omega)]; exact L.1, fun d hd => by rw [f3 _ _ (by omega)]; exact L.2 d hd⟩ (bt_cg (fun S => f3 _ _ (by omega)) (fun _ _ _ _ => Iff.rfl) h5) (bt_cg (fun _ => rfl) (fun S b _ _ => (Q1 S b).symm) f2)
      refine ⟨s', ?_, e2, fun c i h => (e3 c i h).trans (f3 c i h), e4.trans f4⟩
      rw [← e1]
      simp only [f_X7_lanesOfRound_L86_s, f_X7_lanesOfRound_L86_B, if_neg c, ld, Option.bind_some, z0, if_neg q1, f_X7_goOn, an, f1, nn_succ]
theorem ro_122 {q60 : Nat → Int32 → Int32 → Nat → Nat → Int32 → hq_S → Option (Int32 × hq_S)} {k5 k6 d : Nat} {a2 a7 : Int32} (hk : (k5 = 161 ∧ k6 = 162) ∨ (k5 = 162 ∧ k6 = 161)) (hnc : nc ≤ 10) : ∀ (q r m : Nat) (s : hq_S), r + q = 2 ^ nc → q < m → bt nc s k6 (fun S b => if S < r then re nx nc a (d + 1) S b else ro_Q nx nc a d (2 ^ nc) S b) → bt nc s 160 (fun S b => if S < r then rd nx nc a (d + 1) S b = true else rd nx nc a d S b = true) → ∃ s', f_X7_lanesOfRound_L122 N q60 m 103 a2 (Int32.ofNat (2 ^ nc - 1)) k5 k6 a7 (Int32.ofNat r) s = q60 103 a2 (Int32.ofNat (2 ^ nc - 1)) k6 k5 (a7 + 1) s' ∧ bt nc s' k6 (re nx nc a (d + 1)) ∧ bt nc s' 160 (fun S b => rd nx nc a (d + 1) S b = true) ∧ (∀ c i, ¬ c = k6 → ¬ c = 160 → hq_gi s' c i = hq_gi s c i) ∧ s'.2 = s.2 := by
  have p10 : (2 : Nat) ^ nc ≤ 1024 := Nat.pow_le_pow_right (by omega) (show nc ≤ 10 by omega)
  have p0 : 0 < (2 : Nat) ^ nc := Nat.two_pow_pos nc
  intro q
  induction q with
  | zero =>
    intro r m s hr hm h6 h0
    obtain ⟨m, rfl⟩ : ∃ j, m = j + 1 := ⟨m - 1, by omega⟩
    have c : Int32.ofNat (2 ^ nc - 1) < Int32.ofNat r := (nn_lt (by omega) (by omega)).mpr (by omega)
    exact ⟨s, by simp only [f_X7_lanesOfRound_L122_s, f_X7_lanesOfRound_L122_B, if_pos c], bt_cg (fun _ => rfl) (fun S b hS _ => by rw [if_pos (by omega)]) h6, bt_cg (fun _ => rfl) (fun S b hS _ => by rw [if_pos (by omega)]) h0, fun _ _ _ _ => rfl, rfl⟩
  | succ q ih =>
    intro r m s hr hm h6 h0
    obtain ⟨m, rfl⟩ : ∃ j, m = j + 1 := ⟨m - 1, by omega⟩
    have c : ¬ Int32.ofNat (2 ^ nc - 1) < Int32.ofNat r := by rw [nn_lt (by omega) (by omega)]; omega
    obtain ⟨x, x1, x2, x3⟩ := h6 r (by omega)
    obtain ⟨y, y1, y2, y3⟩ := h0 r (by omega)
    have l1 : hq_ldiA s k6 (Int32.ofNat r) = some (Int32.ofNat x) := by rw [bt_ld (by omega) (by omega), x2]
    have l2 : hq_ld s 160 1024 (Int32.ofNat r) = some (Int32.ofNat y) := by rw [nn_ld (by omega) (by omega), y2]
    have st : hq_stiA s k6 (Int32.ofNat r) (Int32.ofNat (nb_df x y)) = some (hq_si s k6 r (Int32.ofNat (nb_df x y))) := bt_st (by omega) (by omega)
    have l3 : hq_ld (hq_si s k6 r (Int32.ofNat (nb_df x y))) 160 1024 (Int32.ofNat r) = some (Int32.ofNat y) := by rw [nn_ld (by omega) (by omega), nb_ii, if_neg (fun z => by omega), y2]
    have l4 : hq_ldiA (hq_si s k6 r (Int32.ofNat (nb_df x y))) k6 (Int32.ofNat r) = some (Int32.ofNat (nb_df x y)) := by rw [bt_ld (by omega) (by omega), nb_ii, if_pos ⟨rfl, rfl⟩]
    have st2 : hq_st (hq_si s k6 r (Int32.ofNat (nb_df x y))) 160 1024 (Int32.ofNat r) (Int32.ofNat (y ||| nb_df x y)) = some (hq_si (hq_si s k6 r (Int32.ofNat (nb_df x y))) 160 r (Int32.ofNat (y ||| nb_df x y))) := nn_st (by omega) (by omega)
    have dl := nb_df_lt (b := y) x1
    have re1 : ∀ b, b < nc → ((nb_df x y).testBit b = true ↔ re nx nc a (d + 1) r b) := fun b hb => by
      have h3 := x3 b hb
      have h4 := y3 b hb
      dsimp only at h3 h4
      rw [if_neg (by omega)] at h3 h4
      rw [nb_df_t, Bool.and_eq_true, h3, re_s]
      constructor
      · rintro ⟨⟨S', c', g1, g2, g3, g4, g5⟩, g6⟩
        refine ⟨rd_nf fun z => ?_, S', c', g2, g3, g4, g5⟩
        rw [h4.mpr z] at g6; cases g6
      · rintro ⟨g0, S', c', g2, g3, g4, g5⟩
        refine ⟨⟨S', c', ?_, g2, g3, g4, g5⟩, ?_⟩
        · have : S' ≤ r := by rw [← g3]; exact Nat.left_le_or
          omega
        · cases z : y.testBit b with
          | false => rfl
          | true => rw [h4.mp z] at g0; cases g0
    obtain ⟨s', e1, e2, e3, e4, e5⟩ := ih (r + 1) m (hq_si (hq_si s k6 r (Int32.ofNat (nb_df x y))) 160 r (Int32.ofNat (y ||| nb_df x y))) (by omega) (by omega) (fun S hS => by
      by_cases z : S = r
      · refine ⟨nb_df x y, dl, by rw [nb_ii, if_neg (fun w => by omega), nb_ii, if_pos ⟨rfl, z⟩], fun b hb => ?_⟩
        dsimp only
        rw [if_pos (by omega), z]
        exact re1 b hb
      · obtain ⟨w, w1, w2, w3⟩ := h6 S hS
        refine ⟨w, w1, by rw [nb_ii, if_neg (fun w => by omega), nb_ii, if_neg (fun v => z v.2)]; exact w2, fun b hb => (w3 b hb).trans ?_⟩
        dsimp only
        by_cases lt : S < r
        · rw [if_pos lt, if_pos (by omega)]
        · rw [if_neg lt, if_neg (by omega)]) (fun S hS => by
      by_cases z : S = r
      · refine ⟨y ||| nb_df x y, nb_lt_or y1 dl, by rw [nb_ii, if_pos ⟨rfl, z⟩], fun b hb => ?_⟩
        have h4 := y3 b hb
        dsimp only at h4 ⊢
        rw [if_neg (by omega)] at h4
        rw [if_pos (by omega), z, Nat.testBit_or, Bool.or_eq_true, re1 b hb, h4, re_rd]
        constructor
        · rintro (w | ⟨-, w⟩)
          · exact rd_up w
          · exact w
        · intro w
          by_cases v : rd nx nc a d r b = true
          · exact Or.inl v
          · exact Or.inr ⟨rd_nf v, w⟩
      · obtain ⟨w, w1, w2, w3⟩ := h0 S hS
        refine ⟨w, w1, by rw [nb_ii, if_neg (fun v => z v.2), nb_ii, if_neg (fun v => by omega)]; exact w2, fun b hb => (w3 b hb).trans ?_⟩
        dsimp only
        by_cases lt : S < r
        · rw [if_pos lt, if_pos (by omega)]
        · rw [if_neg lt, if_neg (by omega)])
    refine ⟨s', ?_, e2, e3, fun c i h1 h2 => (e4 c i h1 h2).trans (by rw [nb_ii, if_neg (fun z => h2 z.1), nb_ii, if_neg (fun z => h1 z.1)]), e5⟩
    rw [← e1]
    simp only [f_X7_lanesOfRound_L122_s, f_X7_lanesOfRound_L122_B, if_neg c, l1, l2, nb_not, st, l3, l4, nb_or, st2, Option.bind_some, nn_succ]
/-- what comes out -/
def ro_V (nx : Nat → Nat) (nc a : Nat) (v : Int32) : Prop := (∃ d c, d ≤ 54 ∧ v = Int32.ofNat d ∧ re nx nc a d (2 ^ nc - 1) c ∧ ∀ i, i < d → ∀ c, ¬ re nx nc a i (2 ^ nc - 1) c) ∨ (v = -2 ∧ ∀ i c, ¬ re nx nc a i (2 ^ nc - 1) c)
theorem ro_60 (hN : 1100 < N) (ha : a < nc) (hnc : nc ≤ 10) (hx : ∀ c, nx c < 2 ^ nc) : ∀ (q d m k5 k6 : Nat) (a2 : Int32) (s : hq_S), d + q = 101 → q < m → ((k5 = 161 ∧ k6 = 162) ∨ (k5 = 162 ∧ k6 = 161)) → hl_S 103 nc nx s → bt nc s k5 (re nx nc a d) → bt nc s 160 (fun S b => rd nx nc a d S b = true) → (∀ i, i < d → ∀ c, ¬ re nx nc a i (2 ^ nc - 1) c) → ∃ v s', f_X7_lanesOfRound_L60 N m 103 a2 (Int32.ofNat (2 ^ nc - 1)) k5 k6 (Int32.ofNat d) s = some (v, s') ∧ ro_V nx nc a v ∧ (∀ c i, ¬ c = 160 → ¬ c = 161 → ¬ c = 162 → hq_gi s' c i = hq_gi s c i) ∧ s'.2 = s.2 := by
  have p10 : (2 : Nat) ^ nc ≤ 1024 := Nat.pow_le_pow_right (by omega) (show nc ≤ 10 by omega)
  have p0 : 0 < (2 : Nat) ^ nc := Nat.two_pow_pos nc
  intro q
  induction q with
  | zero =>
    intro d m k5 k6 a2 s hd hm hk L h5 h0 no
    obtain ⟨m, rfl⟩ : ∃ j, m = j + 1 := ⟨m - 1, by omega⟩
    have c : (100 : Int32) < Int32.ofNat d := by rw [nb_lit 100, nn_lt (by omega) (by omega)]; omega
    refine ⟨-2, s, by simp only [f_X7_lanesOfRound_L60_s, f_X7_lanesOfRound_L60_B, if_pos c], Or.inr ⟨rfl, fun i c h => ?_⟩, fun _ _ _ _ _ => rfl, rfl⟩
    have := re_54 ha hnc hx h
    exact no i (by omega) c h
  | succ q ih =>
    intro d m k5 k6 a2 s hd hm hk L h5 h0 no
    obtain ⟨m, rfl⟩ : ∃ j, m = j + 1 := ⟨m - 1, by omega⟩
    have c : ¬ (100 : Int32) < Int32.ofNat d := by rw [nb_lit 100, nn_lt (by omega) (by omega)]; omega
    obtain ⟨x, x1, x2, x3⟩ := h5 (2 ^ nc - 1) (by omega)
    have ld : hq_ldiA s k5 (Int32.ofNat (2 ^ nc - 1)) = some (Int32.ofNat x) := by rw [bt_ld (by omega) (by omega), x2]
    have z0 : (Int32.ofNat x = 0) = (x = 0) := nb_eq0 (by omega)
    by_cases q1 : x = 0
    · have no2 : ∀ i, i < d + 1 → ∀ c, ¬ re nx nc a i (2 ^ nc - 1) c := fun i hi c h => by
        by_cases e : i = d
        · rw [e] at h
          exact (nb_0t x1).mp q1 c (rd_lt ha hx _ _ _ h.1).2 ((x3 c (rd_lt ha hx _ _ _ h.1).2).mpr h)
        · exact no i (by omega) c h
      have fl : f_J7_fill_53178 N k6 0 s = some (hq_w s k6 fun i => if i < 1024 then 0 else hq_gi s k6 i) := nb_fill (L := 1024) (bt_al (by omega)).1 (bt_al (by omega)).2 (by omega) (by omega)
      have w2 : (hq_w s k6 fun i => if i < 1024 then (0 : Int32) else hq_gi s k6 i).2 = s.2 := rfl
      generalize hw : (hq_w s k6 fun i => if i < 1024 then (0 : Int32) else hq_gi s k6 i) = w at fl w2
      have w0 : ∀ S, S < 1024 → hq_gi w k6 S = 0 := fun S hS => by rw [← hw, hw_g, if_pos hS]
      have w1 : ∀ c i, ¬ c = k6 → hq_gi w c i = hq_gi s c i := fun c i h => by rw [← hw, hw_n h]
      obtain ⟨s1, f1, f2, f3, f4⟩ := ro_86 (N := N) (q60 := f_X7_lanesOfRound_L60 N m) (a := a) (k5 := k5) (k6 := k6) (d := d) (a2 := a2) (a7 := Int32.ofNat d) hN hk hnc hx (2 ^ nc) 0 N w (by omega) (by omega) ⟨by rw [w1 _ _ (by omega)]; exact L.1, fun d hd => by rw [w1 _ _ (by omega)]; exact L.2 d hd⟩ (bt_cg (fun S => w1 _ _ (by omega)) (fun _ _ _ _ => Iff.rfl) h5) (fun S hS => ⟨0, p0, w0 S (by omega), fun c hc => ⟨fun h => (by rw [Nat.zero_testBit] at h; cases h), fun ⟨S', c', h, _⟩ => by omega⟩⟩)
      have f1 : f_X7_lanesOfRound_L86 N (f_X7_lanesOfRound_L60 N m) N 103 a2 (Int32.ofNat (2 ^ nc - 1)) k5 k6 (Int32.ofNat d) 0 w = _ := f1
      obtain ⟨s2, g1, g2, g3, g4, g5⟩ := ro_122 (N := N) (q60 := f_X7_lanesOfRound_L60 N m) (nx := nx) (a := a) (k5 := k5) (k6 := k6) (d := d) (a2 := a2) (a7 := Int32.ofNat d) hk hnc (2 ^ nc) 0 N s1 (by omega) (by omega) (bt_cg (fun _ => rfl) (fun S b _ _ => by rw [if_neg (by omega)]) f2) (bt_cg (fun S => (f3 _ _ (by omega)).trans (w1 _ _ (by omega))) (fun S b _ _ => by rw [if_neg (by omega)]) h0)
      have g1 : f_X7_lanesOfRound_L122 N (f_X7_lanesOfRound_L60 N m) N 103 a2 (Int32.ofNat (2 ^ nc - 1)) k5 k6 (Int32.ofNat d) 0 s1 = _ := g1
      have kk : ∀ c i, ¬ c = k6 → ¬ c = 160 → hq_gi s2 c i = hq_gi s c i := fun c i h1 h2 => by rw [g4 c i h1 h2, f3 c i h1, w1 c i h1]
      obtain ⟨v, s', e1, e2, e3, e4⟩ := ih (d + 1) m k6 k5 a2 s2 (by omega) (by omega) (by omega) ⟨by rw [kk _ _ (by omega) (by omega)]; exact L.1, fun d hd => by rw [kk _ _ (by omega) (by omega)]; exact L.2 d hd⟩ g2 g3 no2
      refine ⟨v, s', ?_, e2, fun c i h1 h2 h3 => (e3 c i h1 h2 h3).trans (kk c i (by omega) h1), ((e4.trans g5).trans f4).trans w2⟩
      rw [← e1, ← nn_succ, ← g1, ← f1, f_X7_lanesOfRound_L60_s]
      simp only [f_X7_lanesOfRound_L60_B, if_neg c, ld, Option.bind_some, z0, if_pos q1, fl]
    · have ex : ∃ c, re nx nc a d (2 ^ nc - 1) c := by
        obtain ⟨i, hi⟩ := nb_ne0 q1
        exact ⟨i, (x3 i (nb_tlt x1 hi)).mp hi⟩
      obtain ⟨b, hb⟩ := ex
      exact ⟨Int32.ofNat d, s, by simp only [f_X7_lanesOfRound_L60_s, f_X7_lanesOfRound_L60_B, if_neg c, ld, Option.bind_some, z0, if_neg q1], Or.inl ⟨d, b, re_54 ha hnc hx hb, rfl, hb, no⟩, fun _ _ _ _ _ => rfl, rfl⟩
theorem ro_X {s : hq_S} (hN : 1100 < N) (ha : a < nc) (hnc : nc ≤ 10) (hx : ∀ c, nx c < 2 ^ nc) (L : hl_S 103 nc nx s) : ∃ v s', f_X7_lanesOfRound N 103 (Int32.ofNat a) s = some (v, s') ∧ ro_V nx nc a v ∧ (∀ c i, ¬ c = 160 → ¬ c = 161 → ¬ c = 162 → hq_gi s' c i = hq_gi s c i) ∧ s'.2 = s.2 := by
  have p10 : (2 : Nat) ^ nc ≤ 1024 := Nat.pow_le_pow_right (by omega) (show nc ≤ 10 by omega)
  have p0 : 0 < (2 : Nat) ^ nc := Nat.two_pow_pos nc
  have la : (2 : Nat) ^ a < 2 ^ nc := nb_2lt ha
  have f1 : f_J7_fill_53178 N 160 0 s = some (hq_w s 160 fun i => if i < 1024 then 0 else hq_gi s 160 i) := nb_fill (L := 1024) sw_al.1.1 sw_al.2.1 (by omega) (by omega)
  have w2 : (hq_w s 160 fun i => if i < 1024 then (0 : Int32) else hq_gi s 160 i).2 = s.2 := rfl
  generalize hw : (hq_w s 160 fun i => if i < 1024 then (0 : Int32) else hq_gi s 160 i) = w at f1 w2
  have w0 : ∀ S, S < 1024 → hq_gi w 160 S = 0 := fun S hS => by rw [← hw, hw_g, if_pos hS]
  have w1 : ∀ c i, ¬ c = 160 → hq_gi w c i = hq_gi s c i := fun c i h => by rw [← hw, hw_n h]
  have f2 : f_J7_fill_53178 N 161 0 w = some (hq_w w 161 fun i => if i < 1024 then 0 else hq_gi w 161 i) := nb_fill (L := 1024) sw_al.1.2.1 sw_al.2.2.1 (by omega) (by omega)
  have u2 : (hq_w w 161 fun i => if i < 1024 then (0 : Int32) else hq_gi w 161 i).2 = w.2 := rfl
  generalize hu : (hq_w w 161 fun i => if i < 1024 then (0 : Int32) else hq_gi w 161 i) = u at f2 u2
  have u0 : ∀ S, S < 1024 → hq_gi u 161 S = 0 := fun S hS => by rw [← hu, hw_g, if_pos hS]
  have u1 : ∀ c i, ¬ c = 161 → hq_gi u c i = hq_gi w c i := fun c i h => by rw [← hu, hw_n h]
  have on1 := nb_one (show a < 32 by omega)
  have st1 : hq_st u 160 1024 (Int32.ofNat (2 ^ a)) (Int32.ofNat (2 ^ a)) = some (hq_si u 160 (2 ^ a) (Int32.ofNat (2 ^ a))) := nn_st (by omega) (by omega)
  have st2 : hq_st (hq_si u 160 (2 ^ a) (Int32.ofNat (2 ^ a))) 161 1024 (Int32.ofNat (2 ^ a)) (Int32.ofNat (2 ^ a)) = some (hq_si (hq_si u 160 (2 ^ a) (Int32.ofNat (2 ^ a))) 161 (2 ^ a) (Int32.ofNat (2 ^ a))) := nn_st (by omega) (by omega)
  have all : ((1 : Int32) <<< (hq_gi s 103 0 &&& 31)) - 1 = Int32.ofNat (2 ^ nc - 1) := by rw [L.1, nb_one (by omega), nb_lit 1, nb_sub (by omega)]
  have r0 : ∀ S b, rd nx nc a 0 S b = true ↔ (S = 2 ^ a ∧ b = a) := fun S b => by rw [rd, Bool.and_eq_true, decide_eq_true_iff, decide_eq_true_iff]
  have e0 : ∀ S b, re nx nc a 0 S b ↔ (S = 2 ^ a ∧ b = a) := fun S b => ⟨fun h => (r0 S b).mp h.1, fun h => ⟨(r0 S b).mpr h, fun i hi => by omega⟩⟩
  have bts : ∀ (s' : hq_S) (k : Nat) (Q : Nat → Nat → Prop), (∀ S b, Q S b ↔ (S = 2 ^ a ∧ b = a)) → (∀ S, S < 1024 → hq_gi s' k S = if S = 2 ^ a then Int32.ofNat (2 ^ a) else 0) → bt nc s' k Q := fun s' k Q hQ hs S hS => by
    by_cases z : S = 2 ^ a
    · refine ⟨2 ^ a, la, by rw [hs S (by omega), if_pos z], fun b _ => ?_⟩
      rw [hQ, nb_2p, decide_eq_true_iff]
      exact ⟨fun h => ⟨z, h.symm⟩, fun h => h.2.symm⟩
    · refine ⟨0, p0, by rw [hs S (by omega), if_neg z]; rfl, fun b _ => ?_⟩
      rw [hQ, Nat.zero_testBit]
      exact ⟨fun h => (by cases h), fun h => absurd h.1 z⟩
  obtain ⟨v, s', g1, g2, g3, g4⟩ := ro_60 (N := N) hN ha hnc hx 101 0 N 161 162 (Int32.ofNat a) (hq_si (hq_si u 160 (2 ^ a) (Int32.ofNat (2 ^ a))) 161 (2 ^ a) (Int32.ofNat (2 ^ a))) (by omega) (by omega) (Or.inl ⟨rfl, rfl⟩) ⟨by rw [nb_ii, if_neg (fun z => by omega), nb_ii, if_neg (fun z => by omega), u1 _ _ (by omega), w1 _ _ (by omega)]; exact L.1, fun d hd => by rw [nb_ii, if_neg (fun z => by omega), nb_ii, if_neg (fun z => by omega), u1 _ _ (by omega), w1 _ _ (by omega)]; exact L.2 d hd⟩ (bts _ _ _ e0 fun S hS => by
    rw [nb_ii]
    by_cases z : S = 2 ^ a
    · rw [if_pos ⟨rfl, z⟩, if_pos z]
    · rw [if_neg (fun w => z w.2), if_neg z, nb_ii, if_neg (fun w => by omega), u0 S hS]) (bts _ _ _ r0 fun S hS => by
    rw [nb_ii, if_neg (fun w => by omega), nb_ii]
    by_cases z : S = 2 ^ a
    · rw [if_pos ⟨rfl, z⟩, if_pos z]
    · rw [if_neg (fun w => z w.2), if_neg z, u1 _ _ (by omega), w0 S hS]) (fun i hi => by omega)
  have g1 : f_X7_lanesOfRound_L60 N N 103 (Int32.ofNat a) (Int32.ofNat (2 ^ nc - 1)) 161 162 0 (hq_si (hq_si u 160 (2 ^ a) (Int32.ofNat (2 ^ a))) 161 (2 ^ a) (Int32.ofNat (2 ^ a))) = some (v, s') := g1
  refine ⟨v, s', ?_, g2, fun c i h1 h2 h3 => ?_, (g4.trans u2).trans w2⟩
  · simp only [f_X7_lanesOfRound, f1, f2, Option.bind_some, on1, st1, st2, all, g1]
  · rw [g3 c i h1 h2 h3, nb_ii, if_neg (fun z => h2 z.1), nb_ii, if_neg (fun z => h1 z.1), u1 _ _ h2, w1 _ _ h1]
end
