/-! SUMS OF LOOT AND OF WHAT ONE HAD; ahead, caught, law -/
section
variable {N nc nl ng nt t k l : Nat} {sx sm : hq_S}
theorem hp_sum1 {c w L b : Nat} (hL : hq_alI c = some L) (hL2 : L < 2147483648) (hw : w * l + w ≤ L) (hw2 : w < 1000) (hz : ∀ i, b ≤ i → i < w → hq_gi sm c (w * l + i) = 0) : ∀ (q j m : Nat) (a : Int32), b ≤ j → j + q = w → q < m → f_X12_sumOf_L6 N m c (Int32.ofNat w) (Int32.ofNat l) a (Int32.ofNat j) sm = some (a, sm) := by
  intro q
  induction q with
  | zero =>
    intro j m a hb hj hm
    obtain ⟨m, rfl⟩ : ∃ k, m = k + 1 := ⟨m - 1, by omega⟩
    have cc : ¬ Int32.ofNat j < Int32.ofNat w := by rw [nn_lt (by omega) (by omega)]; omega
    simp only [f_X12_sumOf_L6_s, f_X12_sumOf_L6_B, if_neg cc]
  | succ q ih =>
    intro j m a hb hj hm
    obtain ⟨m, rfl⟩ : ∃ k, m = k + 1 := ⟨m - 1, by omega⟩
    have cc : Int32.ofNat j < Int32.ofNat w := (nn_lt (by omega) (by omega)).mpr (by omega)
    have ld : hq_ldiA sm c (Int32.ofNat (w * l + j)) = some 0 := by rw [nn_ldiA hL (by omega) hL2, hz j hb (by omega)]
    simp only [f_X12_sumOf_L6_s, f_X12_sumOf_L6_B, if_pos cc, nb_mul, nb_add, ld, Option.bind_some, Int32.add_zero, nn_succ]
    exact ih (j + 1) m a (by omega) (by omega) (by omega)
theorem hp_loot (hN : 20 < N) (hl : l < 23) (hnc : nc ≤ 10) (W : hn_N nc ng nt k l sx sm) : ∃ v, f_X5_lootOfAll N k (Int32.ofNat nc) sx = some (v, sx) ∧ f_X12_sumOf N 199 10 (Int32.ofNat l) sm = some (v, sm) := by
  have wl := W.2.2.2.1
  have w0 := W.2.2.2.2.1
  have key : ∀ (q j m m' : Nat) (a : Int32), j + q = nc → q < m → q + (10 - nc) < m' → ∃ v, f_X5_lootOfAll_L4 N m k (Int32.ofNat nc) a (Int32.ofNat j) sx = some (v, sx) ∧ f_X12_sumOf_L6 N m' 199 (Int32.ofNat 10) (Int32.ofNat l) a (Int32.ofNat j) sm = some (v, sm) := by
    intro q
    induction q with
    | zero =>
      intro j m m' a hj hm hm'
      obtain ⟨m, rfl⟩ : ∃ k, m = k + 1 := ⟨m - 1, by omega⟩
      have c : ¬ Int32.ofNat j < Int32.ofNat nc := by rw [nn_lt (by omega) (by omega)]; omega
      exact ⟨a, by simp only [f_X5_lootOfAll_L4_s, f_X5_lootOfAll_L4_B, if_neg c], hp_sum1 (c := 199) (w := 10) (L := 230) (b := nc) rfl (by omega) (by omega) (by omega) w0 (10 - nc) j m' a (by omega) (by omega) (by omega)⟩
    | succ q ih =>
      intro j m m' a hj hm hm'
      obtain ⟨m, rfl⟩ : ∃ k, m = k + 1 := ⟨m - 1, by omega⟩
      obtain ⟨m', rfl⟩ : ∃ k, m' = k + 1 := ⟨m' - 1, by omega⟩
      have c : Int32.ofNat j < Int32.ofNat nc := (nn_lt (by omega) (by omega)).mpr (by omega)
      have c2 : Int32.ofNat j < Int32.ofNat 10 := (nn_lt (by omega) (by omega)).mpr (by omega)
      obtain ⟨x, hx, x1, x2⟩ := wl j (by omega)
      have ldx : hq_ld sx (k + 1) 10 (Int32.ofNat j) = some (Int32.ofNat x) := by rw [nn_ld (by omega) (by omega), x1]
      have ldm : hq_ldiA sm 199 (Int32.ofNat (10 * l + j)) = some (Int32.ofNat x) := by rw [nn_ldiA (L := 230) rfl (by omega) (by omega), x2]
      obtain ⟨v, i1, i2⟩ := ih (j + 1) m m' (a + Int32.ofNat x) (by omega) (by omega) (by omega)
      refine ⟨v, ?_, ?_⟩
      · simp only [f_X5_lootOfAll_L4_s, f_X5_lootOfAll_L4_B, if_pos c, ldx, Option.bind_some, nn_succ]
        exact i1
      · simp only [f_X12_sumOf_L6_s, f_X12_sumOf_L6_B, if_pos c2, nb_mul, nb_add, ldm, Option.bind_some, nn_succ]
        exact i2
  exact key nc 0 N N 0 (by omega) (by omega) (by omega)
theorem hp_had (hN : 20 < N) (hl : l < 23) (hnt : nt ≤ 4) (W : hn_N nc ng nt k l sx sm) : ∃ v, f_X5_hadByAll N k (Int32.ofNat nt) sx = some (v, sx) ∧ f_X12_sumOf N 204 4 (Int32.ofNat l) sm = some (v, sm) := by
  have wt := W.2.2.2.2.2.2.1
  have w0 := W.2.2.2.2.2.2.2
  have key : ∀ (q j m m' : Nat) (a : Int32), j + q = nt → q < m → q + (4 - nt) < m' → ∃ v, f_X5_hadByAll_L4 N m k (Int32.ofNat nt) a (Int32.ofNat j) sx = some (v, sx) ∧ f_X12_sumOf_L6 N m' 204 (Int32.ofNat 4) (Int32.ofNat l) a (Int32.ofNat j) sm = some (v, sm) := by
    intro q
    induction q with
    | zero =>
      intro j m m' a hj hm hm'
      obtain ⟨m, rfl⟩ : ∃ k, m = k + 1 := ⟨m - 1, by omega⟩
      have c : ¬ Int32.ofNat j < Int32.ofNat nt := by rw [nn_lt (by omega) (by omega)]; omega
      exact ⟨a, by simp only [f_X5_hadByAll_L4_s, f_X5_hadByAll_L4_B, if_neg c], hp_sum1 (c := 204) (w := 4) (L := 92) (b := nt) rfl (by omega) (by omega) (by omega) w0 (4 - nt) j m' a (by omega) (by omega) (by omega)⟩
    | succ q ih =>
      intro j m m' a hj hm hm'
      obtain ⟨m, rfl⟩ : ∃ k, m = k + 1 := ⟨m - 1, by omega⟩
      obtain ⟨m', rfl⟩ : ∃ k, m' = k + 1 := ⟨m' - 1, by omega⟩
      have c : Int32.ofNat j < Int32.ofNat nt := (nn_lt (by omega) (by omega)).mpr (by omega)
      have c2 : Int32.ofNat j < Int32.ofNat 4 := (nn_lt (by omega) (by omega)).mpr (by omega)
      have hx := (wt j (by omega)).2.2.1
      have ldx : hq_ld sx (k + 7) 4 (Int32.ofNat j) = some (hq_gi sm 204 (4 * l + j)) := by rw [nn_ld (by omega) (by omega), hx]
      have ldm : hq_ldiA sm 204 (Int32.ofNat (4 * l + j)) = some (hq_gi sm 204 (4 * l + j)) := nn_ldiA (L := 92) rfl (by omega) (by omega)
      obtain ⟨v, i1, i2⟩ := ih (j + 1) m m' (a + hq_gi sm 204 (4 * l + j)) (by omega) (by omega) (by omega)
      refine ⟨v, ?_, ?_⟩
      · simp only [f_X5_hadByAll_L4_s, f_X5_hadByAll_L4_B, if_pos c, ldx, Option.bind_some, nn_succ]
        exact i1
      · simp only [f_X12_sumOf_L6_s, f_X12_sumOf_L6_B, if_pos c2, nb_mul, nb_add, ldm, Option.bind_some, nn_succ]
        exact i2
  exact key nt 0 N N 0 (by omega) (by omega) (by omega)
end
section
variable {HC : hq_S → Prop} {N : Nat}
/-- an int between two bounds -/
theorem nn_le {a : Int32} {n : Nat} (hn : n < 2147483647) : (∃ j : Nat, j ≤ n ∧ a = Int32.ofNat j ∧ ¬ a < 0 ∧ ¬ Int32.ofNat n < a) ∨ a < 0 ∨ (¬ a < 0 ∧ Int32.ofNat n < a) := by
  by_cases h0 : a < 0
  · exact Or.inr (Or.inl h0)
  · have h1 : 0 ≤ a.toInt := by
      have : ¬ a.toInt < (0 : Int32).toInt := fun q => h0 (Int32.lt_iff_toInt_lt.mpr q)
      rw [show (0 : Int32).toInt = 0 from rfl] at this
      omega
    obtain ⟨j, hj, rfl⟩ := nn_of h1
    by_cases hl : j ≤ n
    · exact Or.inl ⟨j, hl, rfl, h0, fun q => by rw [nn_lt (by omega) hj] at q; omega⟩
    · exact Or.inr (Or.inr ⟨h0, (nn_lt (by omega) hj).mpr (by omega)⟩)
theorem hs_op_14 (hc : hc_loc HC) (hN : 300 < N) (a : Int32) : hq_Sim (hR HC) (f_X11_caught N a) (f_X12_caught N a) := hs_mk2 hc (WX := w_X11_caught) (WM := w_X12_caught) (by decide) (by decide) (fun _ _ => f_X11_caught_fw) (fun _ _ => f_X12_caught_fw) fun sx sm R => by
  have R1 := hR_th hc (x := 0) R
  obtain ⟨-, -, I, -, -, nc, nl, ng, nt, t, bar, fr, to, on, T⟩ := R1
  obtain ⟨⟨b1, b2, b3, b4⟩, ⟨c1, c2, -, -, g1, g2, d1, d2⟩, -⟩ := T.2.1
  rcases hs_isThief (N := N) (a := a) (by omega) T.1.1 T.1.2.1 d1 d2 with ⟨i, hi, rfl, e1, e2⟩ | ⟨e1, e2⟩
  · obtain ⟨sx1, sm1, p1, p2, P, -⟩ := hp_asItGoes (N := N) (by omega) I T
    have key : ∀ (q j m m' : Nat) (sx sm' : hq_S), hh_P nc nl ng nt t 103 94 1 fr to on bar false 0 (hq_si sm 174 0 0) sx sm' → j + q = 199 → q < m → q + 1 < m' → ∃ v sx2 sm2, f_X11_caught_L16 N m (Int32.ofNat i) (Int32.ofNat j) sx = some (v, sx2) ∧ f_X12_caught_L23 N m' (Int32.ofNat i) (Int32.ofNat j) sm' = some (v, sm2) ∧ hm_o 1 (hq_si sm 174 0 0) sm2 := by
      intro q
      induction q with
      | zero =>
        intro j m m' sx sm' P hj hm hm'
        obtain ⟨m, rfl⟩ : ∃ k, m = k + 1 := ⟨m - 1, by omega⟩
        obtain ⟨m', rfl⟩ : ∃ k, m' = k + 2 := ⟨m' - 2, by omega⟩
        have hj : j = 199 := by omega
        subst hj
        have c : ¬ Int32.ofNat 199 < (199 : Int32) := by decide
        have c2 : ¬ (199 : Int32) < Int32.ofNat 199 := by decide
        have c3 : (199 : Int32) < Int32.ofNat 199 + 1 := by decide
        obtain ⟨b, hb, f1, f2⟩ := hh_free (N := N) (l := 1) (by omega) P.2.2.2.2.2.2.1 b3 b4 hi
        have f2 : f_X12_isFree N 1 (Int32.ofNat i) sm' = some (b, sm') := f2
        rcases hb with rfl | rfl
        · refine ⟨199, sx, sm', ?_, ?_, P.2.2.2.2.2.2.2.2⟩
          · simp only [f_X11_caught_L16_s, f_X11_caught_L16_B, if_neg c, f1, Option.bind_some, if_true]
          · simp only [f_X12_caught_L23_s, f_X12_caught_L23_B, if_neg c2, f2, Option.bind_some, if_true]
            rfl
        · obtain ⟨sx1, sm1, -, p2, P1⟩ := hh_pass (N := N) (l := 1) (by omega) (by omega) P
          have p2 : f_X12_passes N 1 0 sm' = some sm1 := p2
          have d10 : ¬ (1 : Int32) = 0 := by decide
          refine ⟨-2, sx, sm1, ?_, ?_, P1.2.2.2.2.2.2.2.2⟩
          · simp only [f_X11_caught_L16_s, f_X11_caught_L16_B, if_neg c, f1, Option.bind_some, if_neg d10]
          · simp only [f_X12_caught_L23_s, f_X12_caught_L23_B, if_neg c2, f2, Option.bind_some, if_neg d10, p2, if_pos c3]
      | succ q ih =>
        intro j m m' sx sm' P hj hm hm'
        obtain ⟨m, rfl⟩ : ∃ k, m = k + 1 := ⟨m - 1, by omega⟩
        obtain ⟨m', rfl⟩ : ∃ k, m' = k + 1 := ⟨m' - 1, by omega⟩
        have c : Int32.ofNat j < (199 : Int32) := by rw [nb_lit 199, nn_lt (by omega) (by omega)]; omega
        have c2 : ¬ (199 : Int32) < Int32.ofNat j := by rw [nb_lit 199, nn_lt (by omega) (by omega)]; omega
        obtain ⟨b, hb, f1, f2⟩ := hh_free (N := N) (l := 1) (by omega) P.2.2.2.2.2.2.1 b3 b4 hi
        have f2 : f_X12_isFree N 1 (Int32.ofNat i) sm' = some (b, sm') := f2
        rcases hb with rfl | rfl
        · refine ⟨Int32.ofNat j, sx, sm', ?_, ?_, P.2.2.2.2.2.2.2.2⟩
          · simp only [f_X11_caught_L16_s, f_X11_caught_L16_B, if_pos c, f1, Option.bind_some, if_true]
          · simp only [f_X12_caught_L23_s, f_X12_caught_L23_B, if_neg c2, f2, Option.bind_some, if_true]
        · obtain ⟨sx1, sm1, p1, p2, P1⟩ := hh_pass (N := N) (l := 1) (by omega) (by omega) P
          have p2 : f_X12_passes N 1 0 sm' = some sm1 := p2
          have d10 : ¬ (1 : Int32) = 0 := by decide
          obtain ⟨v, sx2, sm2, i1, i2, i3⟩ := ih (j + 1) m m' sx1 sm1 P1 (by omega) (by omega) (by omega)
          refine ⟨v, sx2, sm2, ?_, ?_, i3⟩
          · simp only [f_X11_caught_L16_s, f_X11_caught_L16_B, if_pos c, f1, Option.bind_some, if_neg d10, p1, nn_succ]
            exact i1
          · simp only [f_X12_caught_L23_s, f_X12_caught_L23_B, if_neg c2, f2, Option.bind_some, if_neg d10, p2, nn_succ]
            exact i2
    obtain ⟨v, sx2, sm2, k1, k2, k3⟩ := key 199 0 N N sx1 sm1 P (by omega) (by omega) (by omega)
    have d10 : ¬ (1 : Int32) = 0 := by decide
    refine ⟨v, sx2, sm2, ?_, ?_, hm_o_th k3⟩
    · simp only [f_X11_caught, e1, Option.bind_some, if_neg d10, p1]
      exact k1
    · simp only [f_X12_caught, nn_pi, e2, Option.bind_some, if_neg d10, p2]
      exact k2
  · refine ⟨-1, sx, hq_si sm 174 0 0, ?_, ?_, fun c i h1 h2 h3 => nn_gk (by omega)⟩
    · simp only [f_X11_caught, e1, Option.bind_some, if_true]
    · simp only [f_X12_caught, nn_pi, e2, Option.bind_some, if_true]
end
