/-! THE CLASS'S CHASE, ROUND BY ROUND -/
theorem i32_ix {r r' a t u : Nat} (h : r' + a * u = r + t * u) : Int32.ofNat r + (Int32.ofNat t - Int32.ofNat a) * Int32.ofNat u = Int32.ofNat r' := by
  have e := congrArg Int32.ofNat h
  rw [Int32.ofNat_add, Int32.ofNat_mul, Int32.ofNat_add, Int32.ofNat_mul] at e
  generalize Int32.ofNat r = R at e ⊢
  generalize Int32.ofNat r' = R' at e ⊢
  generalize Int32.ofNat a = A at e ⊢
  generalize Int32.ofNat t = T at e ⊢
  generalize Int32.ofNat u = U at e ⊢
  grind
section
variable {N n g : Nat} {tn : Nat → Nat}
theorem or0 (z : Nat) : Int32.ofNat z ||| 0 = Int32.ofNat z := by rw [nb_0, nb_or, Nat.or_zero]
theorem lt_9 {k r x y : Nat} {s : hq_S} (hn : n ≤ 10) (hr : r < 1000) (ht : ∀ c, c < n → tn c < 2 ^ n) (F : cx_F n g tn s) (hx : hq_gi s 155 r = Int32.ofNat x) (hx2 : x < 2 ^ n) : ∀ (q c m z : Nat), c + q = n → q < m → z < 2 ^ n → (∀ d, d < n → (z.testBit d = true ↔ (y.testBit d = true ∨ (d < c ∧ nb_su (tn d) x)))) → ∃ w, w < 2 ^ n ∧ f_X0_lostOnTurn_L9 N m (Int32.ofNat r) (Int32.ofNat z) (Int32.ofNat c) s = some (Int32.ofNat w, s) ∧ ∀ d, d < n → (w.testBit d = true ↔ (y.testBit d = true ∨ nb_su (tn d) x)) := by
  intro q
  induction q with
  | zero =>
    intro c m z hc hm hz h
    obtain ⟨m, rfl⟩ : ∃ j, m = j + 1 := ⟨m - 1, by omega⟩
    have cc : ¬ Int32.ofNat c < Int32.ofNat n := by rw [nn_lt (by omega) (by omega)]; omega
    refine ⟨z, hz, by simp only [f_X0_lostOnTurn_L9_s, f_X0_lostOnTurn_L9_B, F.1, if_neg cc], fun d hd => (h d hd).trans ?_⟩
    exact ⟨fun w => w.imp id fun w => w.2, fun w => w.imp id fun w => ⟨by omega, w⟩⟩
  | succ q ih =>
    intro c m z hc hm hz h
    obtain ⟨m, rfl⟩ : ∃ j, m = j + 1 := ⟨m - 1, by omega⟩
    have cc : Int32.ofNat c < Int32.ofNat n := (nn_lt (by omega) (by omega)).mpr (by omega)
    have l1 : hq_ld s 153 10 (Int32.ofNat c) = some (Int32.ofNat (tn c)) := by rw [nn_ld (by omega) (by omega), F.2.2.2 c (by omega)]
    have l2 : hq_ld s 155 1000 (Int32.ofNat r) = some (Int32.ofNat x) := by rw [nn_ld (by omega) (by omega), hx]
    have dl := nb_1024 hn (nb_df_lt (b := x) (ht c (by omega)))
    have e0 : (Int32.ofNat (nb_df (tn c) x) = 0) = (nb_df (tn c) x = 0) := nb_eq0 (by omega)
    by_cases q1 : nb_df (tn c) x = 0
    · have q1' := nb_df0.mp q1
      obtain ⟨w, w1, w2, w3⟩ := ih (c + 1) m (z ||| 2 ^ c) (by omega) (by omega) (nb_lt_or hz (nb_2lt (by omega))) (fun d hd => by
        rw [Nat.testBit_or, Bool.or_eq_true, h d hd, nb_2p, decide_eq_true_iff]
        constructor
        · rintro ((v | ⟨v1, v2⟩) | v)
          · exact Or.inl v
          · exact Or.inr ⟨by omega, v2⟩
          · rw [← v]; exact Or.inr ⟨by omega, q1'⟩
        · rintro (v | ⟨v1, v2⟩)
          · exact Or.inl (Or.inl v)
          · by_cases e : c = d
            · exact Or.inr e
            · exact Or.inl (Or.inr ⟨by omega, v2⟩))
      refine ⟨w, w1, ?_, w3⟩
      rw [← w2]
      simp only [f_X0_lostOnTurn_L9_s, f_X0_lostOnTurn_L9_B, F.1, if_pos cc, l1, l2, Option.bind_some, nb_not, e0, if_pos q1, nb_one (show c < 32 by omega), nb_or, nn_succ]
    · obtain ⟨w, w1, w2, w3⟩ := ih (c + 1) m z (by omega) (by omega) hz (fun d hd => by
        rw [h d hd]
        constructor
        · rintro (v | ⟨v1, v2⟩)
          · exact Or.inl v
          · exact Or.inr ⟨by omega, v2⟩
        · rintro (v | ⟨v1, v2⟩)
          · exact Or.inl v
          · by_cases e : c = d
            · rw [← e] at v2; exact absurd (nb_df0.mpr v2) q1
            · exact Or.inr ⟨by omega, v2⟩)
      refine ⟨w, w1, ?_, w3⟩
      rw [← w2]
      simp only [f_X0_lostOnTurn_L9_s, f_X0_lostOnTurn_L9_B, F.1, if_pos cc, l1, l2, Option.bind_some, nb_not, e0, if_neg q1, or0, nn_succ]
/-- the bounds that all of it keeps to -/
def cB (n g : Nat) (tn : Nat → Nat) : Prop := 1 ≤ n ∧ n ≤ 10 ∧ 1 ≤ g ∧ g ≤ 3 ∧ ∀ c, c < n → tn c < 2 ^ n
theorem cB_M (B : cB n g tn) : n ^ g ≤ 1000 ∧ n ^ g * n ≤ 10000 ∧ 1 ≤ n ^ g := by
  obtain ⟨h1, h2, h3, h4, -⟩ := B
  have p1 : n ^ g ≤ 10 ^ 3 := Nat.le_trans (Nat.pow_le_pow_left h2 g) (Nat.pow_le_pow_right (by omega) h4)
  have p2 : n ^ g * n ≤ 1000 * 10 := Nat.mul_le_mul p1 h2
  have p3 : 0 < n ^ g := Nat.pow_pos (by omega)
  exact ⟨p1, by omega, p3⟩
theorem lt_all {k r : Nat} {s : hq_S} (hN : 100 < N) (B : cB n g tn) (hr : r < n ^ g) (F : cx_F n g tn s) (hh : cb (n ^ g) n s 154 (hd_Q n g)) (hl : cb (n ^ g) n s 155 (fun r c => cL n g tn k (dgs n g r) c)) : ∃ w, w < 2 ^ n ∧ f_X0_lostOnTurn N (Int32.ofNat r) s = some (Int32.ofNat w, s) ∧ ∀ c, c < n → (w.testBit c = true ↔ cT n g tn k (dgs n g r) c) := by
  have hM := cB_M B
  obtain ⟨h1, h2, -, -, ht⟩ := B
  obtain ⟨y, y1, y2, y3⟩ := hh r hr
  obtain ⟨x, x1, x2, x3⟩ := hl r hr
  have ld : hq_ld s 154 1000 (Int32.ofNat r) = some (Int32.ofNat y) := by rw [nn_ld (by omega) (by omega), y2]
  obtain ⟨w, w1, w2, w3⟩ := lt_9 (N := N) (k := k) (y := y) h2 (show r < 1000 by omega) ht F x2 x1 n 0 N y (by omega) (by omega) y1 (fun d hd => ⟨Or.inl, fun v => v.elim id fun v => by omega⟩)
  have w2 : f_X0_lostOnTurn_L9 N N (Int32.ofNat r) (Int32.ofNat y) 0 s = some (Int32.ofNat w, s) := w2
  refine ⟨w, w1, by simp only [f_X0_lostOnTurn, ld, Option.bind_some, w2], fun c hc => ?_⟩
  rw [w3 c hc, y3 c hc]
  unfold cT
  have e : nb_su (tn c) x ↔ ∀ c', c' < n → (tn c).testBit c' = true → cL n g tn k (dgs n g r) c' := ⟨fun h c' hc' hb => (x3 c' hc').mp (h c' hb), fun h c' hb => (x3 c' (nb_tlt (ht c hc) hb)).mpr (h c' (nb_tlt (ht c hc) hb) hb)⟩
  rw [e]
  rfl
/-- one guard goes -/
theorem sp_39 {q16 : Int32 → Int32 → hq_S → Option hq_S} {k b r : Nat} {s : hq_S} (B : cB n g tn) (hb : b < g) (hr : r < n ^ g) (F : cx_F n g tn s) (h6 : cb (n ^ g) n s 156 (fun r c => cG n g tn k b (dgs n g r) c)) : ∀ (q t m z : Nat), t + q = n → q < m → z < 2 ^ n → (∀ c, c < n → (z.testBit c = true ↔ ∃ t', t' < t ∧ (tn (dgs n g r (g - 1 - b))).testBit t' = true ∧ cG n g tn k b (pud (dgs n g r) (g - 1 - b) t') c)) → ∃ w, w < 2 ^ n ∧ f_X0_spreadOneGuard_L39 N q16 m (Int32.ofNat (n ^ b)) (Int32.ofNat r) (Int32.ofNat (dgs n g r (g - 1 - b))) (Int32.ofNat z) (Int32.ofNat t) s = q16 (Int32.ofNat (n ^ b)) (Int32.ofNat (r + 1)) (hq_si s 157 r (Int32.ofNat w)) ∧ ∀ c, c < n → (w.testBit c = true ↔ cG n g tn k (b + 1) (dgs n g r) c) := by
  have hM := cB_M B
  obtain ⟨h1, h2, -, -, ht⟩ := B
  have al : dgs n g r (g - 1 - b) < n := dgs_lt (by omega) g r _ (by omega)
  have pos : ∀ j, j < g → dgs n g r j < n := fun j hj => dgs_lt (by omega) g r j hj
  have l1 : hq_ld s 153 10 (Int32.ofNat (dgs n g r (g - 1 - b))) = some (Int32.ofNat (tn (dgs n g r (g - 1 - b)))) := by rw [nn_ld (by omega) (by omega), F.2.2.2 _ (by omega)]
  have tl := nb_1024 h2 (ht _ al)
  intro q
  induction q with
  | zero =>
    intro t m z hc hm hz h
    obtain ⟨m, rfl⟩ : ∃ j, m = j + 1 := ⟨m - 1, by omega⟩
    have cc : ¬ Int32.ofNat t < Int32.ofNat n := by rw [nn_lt (by omega) (by omega)]; omega
    have st : hq_st s 157 1000 (Int32.ofNat r) (Int32.ofNat z) = some (hq_si s 157 r (Int32.ofNat z)) := nn_st (by omega) (by omega)
    refine ⟨z, hz, by simp only [f_X0_spreadOneGuard_L39_s, f_X0_spreadOneGuard_L39_B, F.1, if_neg cc, st, Option.bind_some, nn_succ], fun c hc => ?_⟩
    rw [h c hc, cG_s hb, show t = n by omega]
  | succ q ih =>
    intro t m z hc hm hz h
    obtain ⟨m, rfl⟩ : ∃ j, m = j + 1 := ⟨m - 1, by omega⟩
    have cc : Int32.ofNat t < Int32.ofNat n := (nn_lt (by omega) (by omega)).mpr (by omega)
    have b1 := nb_bit1 (show tn (dgs n g r (g - 1 - b)) < 2147483648 by omega) (show t < 32 by omega)
    by_cases q1 : (tn (dgs n g r (g - 1 - b))).testBit t = true
    · have pp : ∀ j, j < g → pud (dgs n g r) (g - 1 - b) t j < n := fun j hj => by
        by_cases e : j = g - 1 - b
        · rw [e, pud_i]; omega
        · rw [pud_n e]; exact pos j hj
      have r2 := enc_lt g pp
      have eu := enc_upd (n := n) (p := dgs n g r) (i := g - 1 - b) (v := t) g (by omega)
      rw [enc_dgs (by omega) g r hr, show g - 1 - (g - 1 - b) = b by omega] at eu
      obtain ⟨y, y1, y2, y3⟩ := h6 _ r2
      have ix := i32_ix eu
      have l2 : hq_ld s 156 1000 (Int32.ofNat (enc n (pud (dgs n g r) (g - 1 - b) t) g)) = some (Int32.ofNat y) := by rw [nn_ld (by omega) (by omega), y2]
      have y4 : ∀ c, c < n → (y.testBit c = true ↔ cG n g tn k b (pud (dgs n g r) (g - 1 - b) t) c) := fun c hc => (y3 c hc).trans (cG_cg fun j hj => dgs_enc g pp j hj)
      obtain ⟨w, w1, w2, w3⟩ := ih (t + 1) m (z ||| y) (by omega) (by omega) (nb_lt_or hz y1) (fun c hc => by
        rw [Nat.testBit_or, Bool.or_eq_true, h c hc, y4 c hc]
        constructor
        · rintro (⟨t', v1, v2⟩ | v)
          · exact ⟨t', by omega, v2⟩
          · exact ⟨t, by omega, q1, v⟩
        · rintro ⟨t', v1, v2⟩
          by_cases e : t' = t
          · rw [e] at v2; exact Or.inr v2.2
          · exact Or.inl ⟨t', by omega, v2⟩)
      refine ⟨w, w1, ?_, w3⟩
      rw [← w2]
      simp only [f_X0_spreadOneGuard_L39_s, f_X0_spreadOneGuard_L39_B, F.1, if_pos cc, l1, Option.bind_some, b1, if_pos q1, ix, l2, nb_or, nn_succ]
    · obtain ⟨w, w1, w2, w3⟩ := ih (t + 1) m z (by omega) (by omega) hz (fun c hc => by
        rw [h c hc]
        constructor
        · rintro ⟨t', v1, v2⟩
          exact ⟨t', by omega, v2⟩
        · rintro ⟨t', v1, v2⟩
          have e : ¬ t' = t := fun e => by rw [e] at v2; exact q1 v2.1
          exact ⟨t', by omega, v2⟩)
      refine ⟨w, w1, ?_, w3⟩
      rw [← w2]
      simp only [f_X0_spreadOneGuard_L39_s, f_X0_spreadOneGuard_L39_B, F.1, if_pos cc, l1, Option.bind_some, b1, if_neg q1, nb_0, nb_or, Nat.or_zero, nn_succ]
theorem cp_M {s : hq_S} {M : Nat} (h : M ≤ 1000) : hq_cp s 157 1000 156 1000 0 0 (Int32.ofNat M) = some (hq_cpS s 157 156 0 0 M) := by
  have e1 : ¬ Int32.ofNat M < 0 := nn_nlt0 (by omega)
  have e2 : (Int32.ofNat M).toNatClampNeg = M := nn_clamp (by omega)
  have e3 : (0 : Int32).toNatClampNeg = 0 := rfl
  have e4 : Nat.ble (0 + M) 1000 = true := by rw [Nat.ble_eq]; omega
  have e5 : ¬ (0 : Int32) < 0 := by decide
  unfold hq_cp
  rw [e2, e3, e4, decide_eq_false e1, decide_eq_false e5]
  rfl
theorem sp_16 {k b : Nat} (hN : 100 < N) (B : cB n g tn) (hb : b < g) : ∀ (q r m : Nat) (s : hq_S), r + q = n ^ g → q < m → cx_F n g tn s → cb (n ^ g) n s 156 (fun r c => cG n g tn k b (dgs n g r) c) → cb r n s 157 (fun r c => cG n g tn k (b + 1) (dgs n g r) c) → ∃ s', f_X0_spreadOneGuard_L16 N m (Int32.ofNat (n ^ b)) (Int32.ofNat r) s = some s' ∧ cb (n ^ g) n s' 156 (fun r c => cG n g tn k (b + 1) (dgs n g r) c) ∧ ∀ c i, ¬ c = 156 → ¬ c = 157 → hq_gi s' c i = hq_gi s c i := by
  have hM := cB_M B
  have pb : n ^ b ≤ n ^ g := Nat.pow_le_pow_right (by have := B.1; omega) (by omega)
  have pb0 : 0 < n ^ b := Nat.pow_pos (by have := B.1; omega)
  intro q
  induction q with
  | zero =>
    intro r m s hr hm F h6 h7
    obtain ⟨m, rfl⟩ : ∃ j, m = j + 1 := ⟨m - 1, by omega⟩
    have cc : ¬ Int32.ofNat r < Int32.ofNat (n ^ g) := by rw [nn_lt (by omega) (by omega)]; omega
    refine ⟨hq_cpS s 157 156 0 0 (n ^ g), by simp only [f_X0_spreadOneGuard_L16_s, f_X0_spreadOneGuard_L16_B, F.2.2.1, if_neg cc, cp_M hM.1, Option.bind_some], fun r' hr' => ?_, fun c i h1 h2 => by rw [hk_cpi, if_neg (fun z => h1 z.1)]⟩
    rw [hk_cpi, if_pos ⟨rfl, hr'⟩]
    exact h7 r' (by omega)
  | succ q ih =>
    intro r m s hr hm F h6 h7
    obtain ⟨m, rfl⟩ : ∃ j, m = j + 1 := ⟨m - 1, by omega⟩
    have n10 := B.2.1
    have n1 := B.1
    have cc : Int32.ofNat r < Int32.ofNat (n ^ g) := (nn_lt (by omega) (by omega)).mpr (by omega)
    have dv : hq_idiv (Int32.ofNat r) (Int32.ofNat (n ^ b)) = some (Int32.ofNat (r / n ^ b)) := nb_div (by omega) pb0 (by omega)
    have d2 : r / n ^ b ≤ r := Nat.div_le_self _ _
    have rm : hq_irem (Int32.ofNat (r / n ^ b)) (Int32.ofNat n) = some (Int32.ofNat (dgs n g r (g - 1 - b))) := by rw [nb_rem (by omega) (by omega) (by omega), dgs_unit b g r hb]
    obtain ⟨w, w1, w2, w3⟩ := sp_39 (N := N) (q16 := f_X0_spreadOneGuard_L16 N m) (k := k) (b := b) (r := r) (s := s) B hb (by omega) F h6 n 0 N 0 (by omega) (by omega) (Nat.two_pow_pos n) (fun c hc => ⟨fun h => (by rw [Nat.zero_testBit] at h; cases h), fun ⟨t', h, _⟩ => by omega⟩)
    have w2 : f_X0_spreadOneGuard_L39 N (f_X0_spreadOneGuard_L16 N m) N (Int32.ofNat (n ^ b)) (Int32.ofNat r) (Int32.ofNat (dgs n g r (g - 1 - b))) 0 0 s = _ := w2
    have ow : ∀ c i, ¬ c = 157 → hq_gi (hq_si s 157 r (Int32.ofNat w)) c i = hq_gi s c i := fun c i h => by rw [nb_ii, if_neg (fun z => h z.1)]
    obtain ⟨s', e1, e2, e3⟩ := ih (r + 1) m (hq_si s 157 r (Int32.ofNat w)) (by omega) (by omega) (cx_F_k (fun c i h => ow c i (by omega)) F) (cb_cg (fun r _ => ow _ _ (by omega)) (fun _ _ _ _ => Iff.rfl) h6) (fun r' hr' => by
      by_cases e : r' = r
      · rw [e]
        exact ⟨w, w1, by rw [nb_ii, if_pos ⟨rfl, rfl⟩], w3⟩
      · rw [nb_ii, if_neg (fun z => e z.2)]
        exact h7 r' (by omega))
    refine ⟨s', ?_, e2, fun c i h1 h2 => (e3 c i h1 h2).trans (ow c i h2)⟩
    rw [← e1, ← w2]
    simp only [f_X0_spreadOneGuard_L16_s, f_X0_spreadOneGuard_L16_B, F.2.2.1, if_pos cc, F.1, dv, rm, Option.bind_some]
theorem sr_31 {k : Nat} {a1 : Int32} (hN : 1100 < N) (B : cB n g tn) : ∀ (q b m : Nat) (s : hq_S), b + q = g → q < m → cx_F n g tn s → cb (n ^ g) n s 156 (fun r c => cG n g tn k b (dgs n g r) c) → ∃ u s', f_X0_solveRound_L31 N m a1 (Int32.ofNat (n ^ b)) (Int32.ofNat b) s = f_X0_solveRound_L62 N N a1 u 0 0 s' ∧ cb (n ^ g) n s' 156 (fun r c => cG n g tn k g (dgs n g r) c) ∧ ∀ c i, ¬ c = 156 → ¬ c = 157 → hq_gi s' c i = hq_gi s c i := by
  have hM := cB_M B
  intro q
  induction q with
  | zero =>
    intro b m s hb hm F h6
    obtain ⟨m, rfl⟩ : ∃ j, m = j + 1 := ⟨m - 1, by omega⟩
    have hb : b = g := by omega
    subst hb
    have g3 := B.2.2.2.1
    have cc : ¬ Int32.ofNat b < Int32.ofNat b := by rw [nn_lt (by omega) (by omega)]; omega
    exact ⟨Int32.ofNat (n ^ b), s, by simp only [f_X0_solveRound_L31_s, f_X0_solveRound_L31_B, F.2.1, if_neg cc], h6, fun _ _ _ _ => rfl⟩
  | succ q ih =>
    intro b m s hb hm F h6
    obtain ⟨m, rfl⟩ : ∃ j, m = j + 1 := ⟨m - 1, by omega⟩
    have g3 := B.2.2.2.1
    have n1 := B.1
    have n10 := B.2.1
    have pb : n ^ b ≤ n ^ g := Nat.pow_le_pow_right (by omega) (by omega)
    have pb0 : 0 < n ^ b := Nat.pow_pos (by omega)
    have cc : Int32.ofNat b < Int32.ofNat g := (nn_lt (by omega) (by omega)).mpr (by omega)
    have c1 : ¬ Int32.ofNat (n ^ b) < (1 : Int32) := by rw [nb_lit 1, nn_lt (by omega) (by omega)]; omega
    have c2 : ¬ Int32.ofNat n < (1 : Int32) := by rw [nb_lit 1, nn_lt (by omega) (by omega)]; omega
    obtain ⟨s1, e1, e2, e3⟩ := sp_16 (N := N) (k := k) (b := b) (by omega) B (by omega) (n ^ g) 0 N s (by omega) (by omega) F h6 (fun r hr => by omega)
    have e1 : f_X0_spreadOneGuard_L16 N N (Int32.ofNat (n ^ b)) 0 s = some s1 := e1
    have F1 : cx_F n g tn s1 := cx_F_k (fun c i h => e3 c i (by omega) (by omega)) F
    obtain ⟨u, s', f1, f2, f3⟩ := ih (b + 1) m s1 (by omega) (by omega) F1 e2
    refine ⟨u, s', ?_, f2, fun c i h1 h2 => (f3 c i h1 h2).trans (e3 c i h1 h2)⟩
    rw [← f1]
    simp only [f_X0_solveRound_L31_s, f_X0_solveRound_L31_B, F.2.1, if_pos cc, f_X0_spreadOneGuard, if_neg c1, F.1, if_neg c2, e1, Option.bind_some, F1.1, nb_mul, nn_succ, Nat.pow_succ]
theorem sr_2 {k : Nat} {a1 : Int32} (hN : 1100 < N) (B : cB n g tn) : ∀ (q r m : Nat) (s : hq_S), r + q = n ^ g → q < m → cS n g tn k s → cb r n s 156 (fun r c => cT n g tn k (dgs n g r) c) → ∃ s', f_X0_solveRound_L2 N m a1 (Int32.ofNat r) s = f_X0_solveRound_L31 N N a1 1 0 s' ∧ cb (n ^ g) n s' 156 (fun r c => cT n g tn k (dgs n g r) c) ∧ ∀ c i, ¬ c = 156 → hq_gi s' c i = hq_gi s c i := by
  have hM := cB_M B
  intro q
  induction q with
  | zero =>
    intro r m s hr hm S h6
    obtain ⟨m, rfl⟩ : ∃ j, m = j + 1 := ⟨m - 1, by omega⟩
    have cc : ¬ Int32.ofNat r < Int32.ofNat (n ^ g) := by rw [nn_lt (by omega) (by omega)]; omega
    exact ⟨s, by simp only [f_X0_solveRound_L2_s, f_X0_solveRound_L2_B, S.1.2.2.1, if_neg cc], fun r' hr' => h6 r' (by omega), fun _ _ _ => rfl⟩
  | succ q ih =>
    intro r m s hr hm S h6
    obtain ⟨m, rfl⟩ : ∃ j, m = j + 1 := ⟨m - 1, by omega⟩
    have cc : Int32.ofNat r < Int32.ofNat (n ^ g) := (nn_lt (by omega) (by omega)).mpr (by omega)
    obtain ⟨w, w1, w2, w3⟩ := lt_all (N := N) (k := k) (r := r) (by omega) B (by omega) S.1 S.2.1 S.2.2.1
    have st : hq_st s 156 1000 (Int32.ofNat r) (Int32.ofNat w) = some (hq_si s 156 r (Int32.ofNat w)) := nn_st (by omega) (by omega)
    have ow : ∀ c i, ¬ c = 156 → hq_gi (hq_si s 156 r (Int32.ofNat w)) c i = hq_gi s c i := fun c i h => by rw [nb_ii, if_neg (fun z => h z.1)]
    obtain ⟨s', e1, e2, e3⟩ := ih (r + 1) m (hq_si s 156 r (Int32.ofNat w)) (by omega) (by omega) ⟨cx_F_k (fun c i h => ow c i (by omega)) S.1, cb_cg (fun r _ => ow _ _ (by omega)) (fun _ _ _ _ => Iff.rfl) S.2.1, cb_cg (fun r _ => ow _ _ (by omega)) (fun _ _ _ _ => Iff.rfl) S.2.2.1, fun r c hr hc => by rw [ow _ _ (by omega)]; exact S.2.2.2 r c hr hc⟩ (fun r' hr' => by
      by_cases e : r' = r
      · rw [e]
        exact ⟨w, w1, by rw [nb_ii, if_pos ⟨rfl, rfl⟩], w3⟩
      · rw [nb_ii, if_neg (fun z => e z.2)]
        exact h6 r' (by omega))
    refine ⟨s', ?_, e2, fun c i h => (e3 c i h).trans (ow c i h)⟩
    rw [← e1]
    simp only [f_X0_solveRound_L2_s, f_X0_solveRound_L2_B, S.1.2.2.1, if_pos cc, w2, st, Option.bind_some, nn_succ]
theorem sr_ok : mm_rfit (mm_ret mc_X0_solveRound) 0 = true ∧ mm_rfit (mm_ret mc_X0_solveRound) 1 = true := by decide
theorem sr_62 {k : Nat} {u : Int32} (hN : 1100 < N) (B : cB n g tn) (hk : k < 20000) : ∀ (q r m : Nat) (a3 : Int32) (s : hq_S), r + q = n ^ g → q < m → cx_F n g tn s → cb (n ^ g) n s 156 (fun r c => cG n g tn k g (dgs n g r) c) → (∀ r', r' < n ^ g → ∃ x, x < 2 ^ n ∧ hq_gi s 155 r' = Int32.ofNat x ∧ ∀ c, c < n → (x.testBit c = true ↔ if r' < r then cL n g tn (k + 1) (dgs n g r') c else cL n g tn k (dgs n g r') c)) → (∀ r' c, r' < n ^ g → c < n → if r' < r then rv n g tn (k + 1) r' c (hq_gi s 158 (r' * n + c)) else rv n g tn k r' c (hq_gi s 158 (r' * n + c))) → (a3 = 0 ∨ a3 = 1) → (a3 = 1 ↔ ∃ r' c, r' < r ∧ c < n ∧ ¬ cL n g tn k (dgs n g r') c ∧ cL n g tn (k + 1) (dgs n g r') c) → ∃ v s', f_X0_solveRound_L62 N m (Int32.ofNat (k + 1)) u a3 (Int32.ofNat r) s = some (v, s') ∧ cb (n ^ g) n s' 155 (fun r c => cL n g tn (k + 1) (dgs n g r) c) ∧ (∀ r c, r < n ^ g → c < n → rv n g tn (k + 1) r c (hq_gi s' 158 (r * n + c))) ∧ (v = 0 ∨ v = 1) ∧ (v = 1 ↔ ∃ r' c, r' < n ^ g ∧ c < n ∧ ¬ cL n g tn k (dgs n g r') c ∧ cL n g tn (k + 1) (dgs n g r') c) ∧ ∀ c i, ¬ c = 155 → ¬ c = 158 → hq_gi s' c i = hq_gi s c i := by
  have hM := cB_M B
  intro q
  induction q with
  | zero =>
    intro r m a3 s hr hm F h6 h5 h8 h3 h3'
    obtain ⟨m, rfl⟩ : ∃ j, m = j + 1 := ⟨m - 1, by omega⟩
    have cc : ¬ Int32.ofNat r < Int32.ofNat (n ^ g) := by rw [nn_lt (by omega) (by omega)]; omega
    have fit : mm_rfit (mm_ret mc_X0_solveRound) a3 = true := h3.elim (fun h => by rw [h]; exact sr_ok.1) (fun h => by rw [h]; exact sr_ok.2)
    rw [show r = n ^ g by omega] at h3'
    refine ⟨a3, s, by simp only [f_X0_solveRound_L62_s, f_X0_solveRound_L62_B, F.2.2.1, if_neg cc, if_pos fit], fun r' hr' => ?_, fun r' c hr' hc => ?_, h3, h3', fun _ _ _ _ => rfl⟩
    · obtain ⟨x, x1, x2, x3⟩ := h5 r' hr'
      refine ⟨x, x1, x2, fun c hc => ?_⟩
      have := x3 c hc
      rw [if_pos (by omega)] at this
      exact this
    · have := h8 r' c hr' hc
      rw [if_pos (by omega)] at this
      exact this
  | succ q ih =>
    intro r m a3 s hr hm F h6 h5 h8 h3 h3'
    obtain ⟨m, rfl⟩ : ∃ j, m = j + 1 := ⟨m - 1, by omega⟩
    have n10 := B.2.1
    have cc : Int32.ofNat r < Int32.ofNat (n ^ g) := (nn_lt (by omega) (by omega)).mpr (by omega)
    obtain ⟨y, y1, y2, y3⟩ := h6 r (by omega)
    obtain ⟨x, x1, x2, x3⟩ := h5 r (by omega)
    have x3 : ∀ c, c < n → (x.testBit c = true ↔ cL n g tn k (dgs n g r) c) := fun c hc => by
      have := x3 c hc
      rw [if_neg (by omega)] at this
      exact this
    have l6 : hq_ld s 156 1000 (Int32.ofNat r) = some (Int32.ofNat y) := by rw [nn_ld (by omega) (by omega), y2]
    have l5 : hq_ld s 155 1000 (Int32.ofNat r) = some (Int32.ofNat x) := by rw [nn_ld (by omega) (by omega), x2]
    have dl := nb_df_lt (b := x) y1
    have dl2 := nb_1024 n10 dl
    have e0 : (Int32.ofNat (nb_df y x) = 0) = (nb_df y x = 0) := nb_eq0 (by omega)
    have fresh : ∀ c, c < n → ((nb_df y x).testBit c = true ↔ (¬ cL n g tn k (dgs n g r) c ∧ cL n g tn (k + 1) (dgs n g r) c)) := fun c hc => by
      rw [nb_df_t, Bool.and_eq_true, y3 c hc, ← cG_g]
      constructor
      · rintro ⟨v1, v2⟩
        refine ⟨fun z => ?_, Or.inr v1⟩
        rw [(x3 c hc).mpr z] at v2; cases v2
      · rintro ⟨v1, v2⟩
        refine ⟨v2.resolve_left v1, ?_⟩
        cases z : x.testBit c with
        | false => rfl
        | true => exact absurd ((x3 c hc).mp z) v1
    have all1 : ∀ c, c < n → ((x ||| nb_df y x).testBit c = true ↔ cL n g tn (k + 1) (dgs n g r) c) := fun c hc => by
      rw [Nat.testBit_or, Bool.or_eq_true, x3 c hc, fresh c hc]
      constructor
      · rintro (v | v)
        · exact cL_up v
        · exact v.2
      · intro v
        by_cases z : cL n g tn k (dgs n g r) c
        · exact Or.inl z
        · exact Or.inr ⟨z, v⟩
    have spl : ∀ r', r' < r + 1 → r' < r ∨ r' = r := fun r' h => by omega
    by_cases q1 : nb_df y x = 0
    · have xe : ∀ c, c < n → (cL n g tn k (dgs n g r) c ↔ cL n g tn (k + 1) (dgs n g r) c) := fun c hc => by
        have := all1 c hc
        rw [q1, Nat.or_zero, x3 c hc] at this
        exact this
      obtain ⟨v, s', e1, e2⟩ := ih (r + 1) m a3 s (by omega) (by omega) F h6 (fun r' hr' => by
        obtain ⟨z, z1, z2, z3⟩ := h5 r' hr'
        refine ⟨z, z1, z2, fun c hc => ?_⟩
        have h := z3 c hc
        by_cases w : r' < r
        · rw [if_pos w] at h; rw [if_pos (by omega)]; exact h
        · rw [if_neg w] at h
          by_cases w2 : r' = r
          · rw [if_pos (by omega)]; rw [w2] at h ⊢; exact h.trans (xe c hc)
          · rw [if_neg (by omega)]; exact h) (fun r' c hr' hc => by
        have h := h8 r' c hr' hc
        by_cases w : r' < r
        · rw [if_pos w] at h; rw [if_pos (by omega)]; exact h
        · rw [if_neg w] at h
          by_cases w2 : r' = r
          · rw [if_pos (by omega)]
            rw [w2] at h ⊢
            rcases h with ⟨j, j1, j2, j3⟩ | ⟨j1, j2⟩
            · exact Or.inl ⟨j, by omega, j2, j3⟩
            · exact Or.inr ⟨j1, fun z => j2 ((xe c hc).mpr z)⟩
          · rw [if_neg (by omega)]; exact h) h3 (by
        rw [h3']
        constructor
        · rintro ⟨r', c, v1, v2⟩
          exact ⟨r', c, by omega, v2⟩
        · rintro ⟨r', c, v1, v2, v3, v4⟩
          rcases spl r' v1 with w | w
          · exact ⟨r', c, w, v2, v3, v4⟩
          · rw [w] at v3 v4
            exact absurd ((xe c v2).mpr v4) v3)
      refine ⟨v, s', ?_, e2⟩
      rw [← e1]
      simp only [f_X0_solveRound_L62_s, f_X0_solveRound_L62_B, F.2.2.1, if_pos cc, l6, l5, Option.bind_some, nb_not, e0, if_pos q1, nn_succ]
    · obtain ⟨s1, f1, f2, f3, f4, f5, f6⟩ := nl_all (N := N) (M := n ^ g) (r := r) (f := nb_df y x) (x := x) (a3 := Int32.ofNat (k + 1)) (s := s) (by omega) hM.2.1 hM.1 n10 (by omega) dl F.1 x2
      obtain ⟨v, s', e1, e2, e3, e4, e5, e6⟩ := ih (r + 1) m 1 s1 (by omega) (by omega) (cx_F_k (fun c i h => f6 c i (by omega) (by omega)) F) (cb_cg (fun r _ => f6 _ _ (by omega) (by omega)) (fun _ _ _ _ => Iff.rfl) h6) (fun r' hr' => by
        by_cases w2 : r' = r
        · rw [w2]
          refine ⟨x ||| nb_df y x, nb_lt_or x1 dl, f2, fun c hc => ?_⟩
          rw [if_pos (by omega)]
          exact all1 c hc
        · rw [f3 r' w2]
          obtain ⟨z, z1, z2, z3⟩ := h5 r' hr'
          refine ⟨z, z1, z2, fun c hc => ?_⟩
          have h := z3 c hc
          by_cases w : r' < r
          · rw [if_pos w] at h; rw [if_pos (by omega)]; exact h
          · rw [if_neg w] at h; rw [if_neg (by omega)]; exact h) (fun r' c hr' hc => by
        have h := h8 r' c hr' hc
        by_cases w2 : r' = r
        · rw [if_pos (by omega)]
          rw [w2] at h ⊢
          rw [if_neg (by omega)] at h
          by_cases b : (nb_df y x).testBit c = true
          · rw [f4 c hc b]
            have nw := (fresh c hc).mp b
            exact Or.inl ⟨k + 1, Nat.le_refl _, cE_new nw.1 nw.2, rfl⟩
          · rw [f5 _ (fun d hd hb z => b (by rw [(cx_ix hc hd z).2]; exact hb))]
            rcases h with ⟨j, j1, j2, j3⟩ | ⟨j1, j2⟩
            · exact Or.inl ⟨j, by omega, j2, j3⟩
            · exact Or.inr ⟨j1, fun z => b ((fresh c hc).mpr ⟨j2, z⟩)⟩
        · have sm : hq_gi s1 158 (r' * n + c) = hq_gi s 158 (r' * n + c) := f5 _ (fun d hd _ z => w2 (cx_ix hc hd z).1)
          rw [sm]
          by_cases w : r' < r
          · rw [if_pos w] at h; rw [if_pos (by omega)]; exact h
          · rw [if_neg w] at h; rw [if_neg (by omega)]; exact h) (Or.inr rfl) ⟨fun _ => by
        obtain ⟨i, hi⟩ := nb_ne0 q1
        have hi2 := nb_tlt dl hi
        exact ⟨r, i, by omega, hi2, (fresh i hi2).mp hi⟩, fun _ => rfl⟩
      refine ⟨v, s', ?_, e2, e3, e4, e5, fun c i h1 h2 => (e6 c i h1 h2).trans (f6 c i h2 h1)⟩
      rw [← e1]
      simp only [f_X0_solveRound_L62_s, f_X0_solveRound_L62_B, F.2.2.1, if_pos cc, l6, l5, Option.bind_some, nb_not, e0, if_neg q1, f1, nn_succ]
/-- one round -/
theorem sr_all {k : Nat} {s : hq_S} (hN : 1100 < N) (B : cB n g tn) (hk : k < 20000) (S : cS n g tn k s) : ∃ v s', f_X0_solveRound N (Int32.ofNat (k + 1)) s = some (v, s') ∧ cS n g tn (k + 1) s' ∧ (v = 0 ∨ v = 1) ∧ (v = 1 ↔ ∃ r c, r < n ^ g ∧ c < n ∧ ¬ cL n g tn k (dgs n g r) c ∧ cL n g tn (k + 1) (dgs n g r) c) ∧ ∀ c i, ¬ c = 155 → ¬ c = 156 → ¬ c = 157 → ¬ c = 158 → hq_gi s' c i = hq_gi s c i := by
  have hM := cB_M B
  have g3 := B.2.2.2.1
  obtain ⟨s1, e1, e2, e3⟩ := sr_2 (N := N) (a1 := Int32.ofNat (k + 1)) hN B (n ^ g) 0 N s (by omega) (by omega) S (fun r hr => by omega)
  have e1 : f_X0_solveRound_L2 N N (Int32.ofNat (k + 1)) 0 s = _ := e1
  obtain ⟨u, s2, f1, f2, f3⟩ := sr_31 (N := N) (k := k) (a1 := Int32.ofNat (k + 1)) hN B g 0 N s1 (by omega) (by omega) (cx_F_k (fun c i h => e3 c i (by omega)) S.1) (cb_cg (fun _ _ => rfl) (fun r c _ _ => cG_0.symm) e2)
  have f1 : f_X0_solveRound_L31 N N (Int32.ofNat (k + 1)) 1 0 s1 = _ := f1
  have k2 : ∀ c i, ¬ c = 156 → ¬ c = 157 → hq_gi s2 c i = hq_gi s c i := fun c i h1 h2 => (f3 c i h1 h2).trans (e3 c i h1)
  have F2 : cx_F n g tn s2 := cx_F_k (fun c i h => k2 c i (by omega) (by omega)) S.1
  obtain ⟨v, s3, g1, g2, g3', g4, g5, g6⟩ := sr_62 (N := N) (k := k) (u := u) hN B hk (n ^ g) 0 N 0 s2 (by omega) (by omega) F2 f2 (fun r hr => by
    rw [k2 _ _ (by omega) (by omega)]
    obtain ⟨x, x1, x2, x3⟩ := S.2.2.1 r hr
    exact ⟨x, x1, x2, fun c hc => by rw [if_neg (by omega)]; exact x3 c hc⟩) (fun r c hr hc => by rw [if_neg (by omega), k2 _ _ (by omega) (by omega)]; exact S.2.2.2 r c hr hc) (Or.inl rfl) ⟨fun h => absurd h (by decide), fun ⟨r, c, h, _⟩ => by omega⟩
  have g1 : f_X0_solveRound_L62 N N (Int32.ofNat (k + 1)) u 0 0 s2 = some (v, s3) := g1
  refine ⟨v, s3, by unfold f_X0_solveRound; rw [e1, f1, g1], ⟨cx_F_k (fun c i h => g6 c i (by omega) (by omega)) F2, cb_cg (fun r _ => (g6 _ _ (by omega) (by omega)).trans (k2 _ _ (by omega) (by omega))) (fun _ _ _ _ => Iff.rfl) S.2.1, g2, g3'⟩, g4, g5, fun c i h1 h2 h3 h4 => (g6 c i h1 h4).trans (k2 c i h2 h3)⟩
/-! until nothing is new -/
theorem cn_d {P : Nat → Prop} {Q : Nat → Prop} {m : Nat} (h : ∀ i, i < m → P i → Q i) (h2 : ∃ i, i < m ∧ ¬ P i ∧ Q i) : cn (fun i => @decide (P i) (Classical.propDecidable _)) m < cn (fun i => @decide (Q i) (Classical.propDecidable _)) m := by
  obtain ⟨i, h3, h4, h5⟩ := h2
  exact cn_lt m (fun i hi z => @decide_eq_true _ (Classical.propDecidable _) (h i hi (@of_decide_eq_true _ (Classical.propDecidable _) z))) ⟨i, h3, @decide_eq_false _ (Classical.propDecidable _) h4, @decide_eq_true _ (Classical.propDecidable _) h5⟩
/-- all rounds: what comes later is as it is -/
def cF (n g : Nat) (tn : Nat → Nat) (k : Nat) : Prop := ∀ i p c, (∀ j, j < g → p j < n) → c < n → cL n g tn i p c → cL n g tn k p c
theorem cF_of {k : Nat} (B : cB n g tn) (h : ∀ r c, r < n ^ g → c < n → cL n g tn (k + 1) (dgs n g r) c → cL n g tn k (dgs n g r) c) : cF n g tn k := fun i p c hp hc => cL_fix (fun p c hp hc w => by
  have e := fun j hj => dgs_enc g hp j hj
  exact (cL_cg e k c).mp (h (enc n p g) c (enc_lt g hp) hc ((cL_cg e (k + 1) c).mpr w))) i p c hp hc
theorem so_36 {a2 : Int32} {k1 : Nat} (hN : 10300 < N) (B : cB n g tn) : ∀ (q k m : Nat) (s : hq_S), k + q = 10001 → q + 1 < m → cS n g tn k s → k + 1 ≤ cn (fun i => @decide (cL n g tn k (dgs n g (i / n)) (i % n)) (Classical.propDecidable _)) (n ^ g * n) → ∃ K s', K < 20000 ∧ f_X0_solve_L36 N m k1 a2 1 (Int32.ofNat (k + 1)) s = some s' ∧ cS n g tn K s' ∧ cF n g tn K ∧ ∀ c i, ¬ c = 155 → ¬ c = 156 → ¬ c = 157 → ¬ c = 158 → hq_gi s' c i = hq_gi s c i := by
  have hM := cB_M B
  have n1 := B.1
  have d10 : ¬ (1 : Int32) = 0 := by decide
  intro q
  induction q with
  | zero =>
    intro k m s hk hm S hc
    have := cn_le (fun i => @decide (cL n g tn k (dgs n g (i / n)) (i % n)) (Classical.propDecidable _)) (n ^ g * n)
    omega
  | succ q ih =>
    intro k m s hk hm S hc
    obtain ⟨m, rfl⟩ : ∃ j, m = j + 1 := ⟨m - 1, by omega⟩
    have hc2 := cn_le (fun i => @decide (cL n g tn k (dgs n g (i / n)) (i % n)) (Classical.propDecidable _)) (n ^ g * n)
    have c1 : ¬ (10000 : Int32) < Int32.ofNat (k + 1) := by rw [nb_lit 10000, nn_lt (by omega) (by omega)]; omega
    obtain ⟨v, s1, e1, e2, e3, e4, e5⟩ := sr_all (N := N) (k := k) (by omega) B (by omega) S
    have step : f_X0_solve_L36 N (m + 1) k1 a2 1 (Int32.ofNat (k + 1)) s = f_X0_solve_L36 N m k1 a2 v (Int32.ofNat (k + 2)) s1 := by
      rw [f_X0_solve_L36_s]
      simp only [f_X0_solve_L36_B, if_neg c1, if_neg d10, e1, Option.bind_some, nn_succ]
    rcases e3 with rfl | rfl
    · obtain ⟨m, rfl⟩ : ∃ j, m = j + 1 := ⟨m - 1, by omega⟩
      have nn : ∀ r c, r < n ^ g → c < n → cL n g tn (k + 1) (dgs n g r) c → cL n g tn k (dgs n g r) c := fun r c hr hc h => by
        by_cases z : cL n g tn k (dgs n g r) c
        · exact z
        · exact absurd (e4.mpr ⟨r, c, hr, hc, z, h⟩) (by decide)
      have fx := cF_of B nn
      refine ⟨k + 1, s1, by omega, ?_, e2, fun i p c hp hc h => cL_up (fx i p c hp hc h), e5⟩
      rw [step, f_X0_solve_L36_s]
      by_cases c2 : (10000 : Int32) < Int32.ofNat (k + 2)
      · simp only [f_X0_solve_L36_B, if_pos c2]
      · simp only [f_X0_solve_L36_B, if_neg c2, if_true]
    · have lt := cn_d (P := fun i => cL n g tn k (dgs n g (i / n)) (i % n)) (Q := fun i => cL n g tn (k + 1) (dgs n g (i / n)) (i % n)) (m := n ^ g * n) (fun i _ h => cL_up h) (by
        obtain ⟨r, c, hr, hc, h1, h2⟩ := e4.mp rfl
        refine ⟨r * n + c, cx_il hr hc, ?_⟩
        have i1 : (r * n + c) / n = r := by rw [Nat.mul_comm, Nat.mul_add_div (by omega), Nat.div_eq_of_lt hc, Nat.add_zero]
        have i2 : (r * n + c) % n = c := by rw [Nat.mul_comm, Nat.mul_add_mod, Nat.mod_eq_of_lt hc]
        rw [i1, i2]
        exact ⟨h1, h2⟩)
      obtain ⟨K, s', g0, g1, g2, g3, g4⟩ := ih (k + 1) m s1 (by omega) (by omega) e2 (by omega)
      exact ⟨K, s', g0, step.trans g1, g2, g3, fun c i h1 h2 h3 h4 => (g4 c i h1 h2 h3 h4).trans (e5 c i h1 h2 h3 h4)⟩
end
