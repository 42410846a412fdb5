/-! PLAYING: both start alike, hours go by, sums -/
section
variable {nc nl ng nt t u k l bar : Nat} {fr to on : Nat → Nat} {sx sx' sm sm' : hq_S} {HC : hq_S → Prop}
theorem hR_th (hc : hc_loc HC) {x : Int32} (R : hR HC sx sm) : hR HC sx (hq_si sm 174 0 x) := hR_k (sx := sx) (sm := sm) hc (hq_kp_rf _ _) (fun k i hk => ⟨by
  rw [nb_ii, if_neg]
  rintro ⟨rfl, rfl⟩
  revert hk
  decide, rfl, rfl⟩) (fun c i _ _ _ => nn_gk (by omega)) R
theorem hm_o_th {x : Int32} (h : hm_o l (hq_si sm 174 0 x) sm') : hm_o l sm sm' := fun c i h1 h2 h3 => (h c i h1 h2 h3).trans (nn_gk (by omega))
theorem hn_copy {a b la lb : Nat} (hnc : nc ≤ 10) (hng : ng ≤ 3) (hnt : nt ≤ 4) (hx : hk_X a b sx sx') (hm : hk_M la lb sm sm') (h : hn_N nc ng nt b lb sx sm) : hn_N nc ng nt a la sx' sm' := by
  obtain ⟨h1, h2, h3, h4, h5, h6, h7, h8⟩ := h
  obtain ⟨-, -, -, x0, x2, x1, x3, x4, x5⟩ := hx
  obtain ⟨m0, -, -, m1, m2, m3, m4⟩ := hm
  have eb : ∀ i, hn_bold sm' i = hn_bold sm i := fun i => by
    unfold hn_bold
    rw [m0 174 53 (by unfold hm_sl; omega), m0 174 54 (by unfold hm_sl; omega), m0 189 i (by unfold hm_sl; omega)]
  refine ⟨?_, ?_, ?_, fun i hi => ?_, fun i hi hi' => ?_, fun i hi => ?_, fun i hi => ?_, fun i hi hi' => ?_⟩
  · rw [x0, m1 196 (by omega) (by omega)]; exact h1
  · rw [x1, m1 197 (by omega) (by omega)]; exact h2
  · rw [x2, m1 198 (by omega) (by omega)]; exact h3
  · rw [x3 i (by omega), m2 i (by omega)]; exact h4 i hi
  · rw [m2 i hi']; exact h5 i hi hi'
  · rw [(x4 i (by omega)).1, (x4 i (by omega)).2.1, (x4 i (by omega)).2.2, m3 200 i (by omega) (by omega) (by omega), m3 201 i (by omega) (by omega) (by omega), m3 202 i (by omega) (by omega) (by omega), m0 185 i (by unfold hm_sl; omega)]; exact h6 i hi
  · rw [(x5 i (by omega)).1, (x5 i (by omega)).2.1, (x5 i (by omega)).2.2.1, (x5 i (by omega)).2.2.2, m4 203 i (by omega) (by omega) (by omega), m4 204 i (by omega) (by omega) (by omega), m4 205 i (by omega) (by omega) (by omega), eb]; exact h7 i hi
  · rw [m4 204 i (by omega) (by omega) hi']; exact h8 i hi hi'
/-- behind setUp -/
def hp_su (s : hq_S) (k1 k2 k3 : Nat) (g : Int32) : hq_S := hq_si (hq_si (hq_si (hq_sr (hq_sr (hq_sr s 113 0 k1) 113 1 k2) 113 2 k3) 113 3 g) 113 4 (-1)) 113 5 1
theorem hp_setUp {N k1 k2 k3 : Nat} {g : Int32} {s : hq_S} : f_X3_setUp N k1 k2 k3 g s = some (hp_su s k1 k2 k3 g) := rfl
theorem hp_su_i {s : hq_S} {k1 k2 k3 c i : Nat} {g : Int32} (h : ¬ c = 113) : hq_gi (hp_su s k1 k2 k3 g) c i = hq_gi s c i := by
  unfold hp_su
  rw [nn_gk h, nn_gk h, nn_gk h]
  rfl
theorem hp_su_j {s : hq_S} {k1 k2 k3 c i : Nat} {g : Int32} : hq_gj (hp_su s k1 k2 k3 g) c i = hq_gj s c i := rfl
theorem hp_su_r {s : hq_S} {k1 k2 k3 c i : Nat} {g : Int32} (h : ¬ c = 113) : hq_gr (hp_su s k1 k2 k3 g) c i = hq_gr s c i := by
  show hq_gr (hq_sr (hq_sr (hq_sr s 113 0 k1) 113 1 k2) 113 2 k3) c i = _
  rw [nb_rr, if_neg (fun q => h q.1), nb_rr, if_neg (fun q => h q.1), nb_rr, if_neg (fun q => h q.1)]
theorem hp_su_3 {s : hq_S} {k1 k2 k3 : Nat} {g : Int32} : hq_gr (hp_su s k1 k2 k3 g) 113 0 = k1 ∧ hq_gr (hp_su s k1 k2 k3 g) 113 1 = k2 ∧ hq_gr (hp_su s k1 k2 k3 g) 113 2 = k3 ∧ hq_gi (hp_su s k1 k2 k3 g) 113 3 = g ∧ hq_gi (hp_su s k1 k2 k3 g) 113 4 = -1 ∧ hq_gi (hp_su s k1 k2 k3 g) 113 5 = 1 := by
  refine ⟨?_, ?_, ?_, ?_, ?_, ?_⟩
  · show hq_gr (hq_sr (hq_sr (hq_sr s 113 0 k1) 113 1 k2) 113 2 k3) 113 0 = _
    rw [nb_rr, if_neg (by omega), nb_rr, if_neg (by omega), nb_rr, if_pos ⟨rfl, rfl⟩]
  · show hq_gr (hq_sr (hq_sr (hq_sr s 113 0 k1) 113 1 k2) 113 2 k3) 113 1 = _
    rw [nb_rr, if_neg (by omega), nb_rr, if_pos ⟨rfl, rfl⟩]
  · show hq_gr (hq_sr (hq_sr (hq_sr s 113 0 k1) 113 1 k2) 113 2 k3) 113 2 = _
    rw [nb_rr, if_pos ⟨rfl, rfl⟩]
  · unfold hp_su
    rw [nn_gn (by omega), nn_gn (by omega), nn_g1]
  · unfold hp_su
    rw [nn_gn (by omega), nn_g1]
  · unfold hp_su
    rw [nn_g1]
theorem hr_told_f (ht : t = 2 ∨ t = 25) (ex : ∀ c i, c < 76 → hq_gi sx' c i = hq_gi sx c i) (ej : ∀ c i, c < 76 → hq_gj sx' c i = hq_gj sx c i) (em : ∀ c i, 176 ≤ c → c ≤ 193 → hq_gi sm' c i = hq_gi sm c i) (h : hr_told nc nl ng nt t sx sm) : hr_told nc nl ng nt t sx' sm' := by
  have ht' : t ≤ 25 := by omega
  clear ht
  unfold hr_told hr_rule at h ⊢
  simp (disch := omega) only [ex, ej, em]
  exact h
theorem hp_up {both : Bool} {g bn : Int32} {o : hq_S} (T : hr_told nc nl ng nt t sx sm) (t2 : t = 2 ∨ t = 25) (u2 : u = 103 ∨ u = 108) (k2 : k = 76 ∨ k = 94) (X : hl_S u nc (ly_nx fr to on bar both nl) sx) (F : ∀ a b, a < nc → b < nc → hq_gi sx (u + 2) (10 * a + b) = Int32.ofNat (bf_far (ly_nx fr to on bar both nl) nc a b)) (M : hl_M nl nc fr to on sm) (B : hq_gi sm 198 l = Int32.ofNat bar) (Bl : bar < 2147483648) (bo : both = true ↔ hq_gi sm 174 49 = 4) (W : hn_N nc ng nt k l sx sm) (Mo : hh_M bn (hp_su sx t u k g) sm) (O : hm_o l o sm) : hh_P nc nl ng nt t u k l fr to on bar both bn o (hp_su sx t u k g) sm := by
  refine ⟨?_, ⟨t2, u2, k2⟩, ⟨hp_su_3.1, hp_su_3.2.1, hp_su_3.2.2.1⟩, ?_, ?_, ⟨M, B, Bl, bo⟩, ?_, Mo, O⟩
  · exact hr_told_f (sx := sx) (sm := sm) t2 (fun c i hc => hp_su_i (by omega)) (fun _ _ _ => rfl) (fun _ _ _ _ => rfl) T
  · unfold hl_S at X ⊢
    rw [hp_su_i (by omega)]
    refine ⟨X.1, fun c hc => ?_⟩
    rw [hp_su_i (by omega)]
    exact X.2 c hc
  · intro a b ha hb
    rw [hp_su_i (by omega)]
    exact F a b ha hb
  · exact hn_N_k (sx := sx) (sm := sm) (by have := T.1; omega) (by have := T.1; omega) (by have := T.1; omega) (fun c i h1 h2 => hp_su_i (by omega)) rfl (fun _ _ _ => rfl) (fun _ => rfl) (fun _ _ => rfl) W
/-- what comes is played: night 94, town 1 -/
theorem hp_play {N : Nat} (hN : 100 < N) (I : hr_idle sm) (h : hr_T nc nl ng nt t bar fr to on sx sm) : ∃ sx1 sm1, f_X5_copyFrom N 94 76 sx = some sx1 ∧ f_X12_copies N 1 0 sm = some sm1 ∧ hk_X 94 76 sx sx1 ∧ hk_M 1 0 sm sm1 ∧ hm_o 1 sm sm1 ∧ hn_N nc ng nt 94 1 sx1 sm1 ∧ hr_told nc nl ng nt t sx1 sm1 ∧ hl_S 103 nc (ly_nx fr to on bar false nl) sx1 ∧ (∀ a b, a < nc → b < nc → hq_gi sx1 105 (10 * a + b) = Int32.ofNat (bf_far (ly_nx fr to on bar false nl) nc a b)) ∧ hl_M nl nc fr to on sm1 ∧ hq_gi sm1 198 1 = Int32.ofNat bar ∧ bar < 2147483648 ∧ hq_gi sm1 174 49 = 0 ∧ hq_gr sx1 0 2 = t ∧ hl_X t nl nc fr to on sx1 := by
  obtain ⟨⟨t1, t2, t3⟩, T, ⟨X, M, S, F, B, Bl⟩, W, Fa, Im, U⟩ := h
  obtain ⟨sx1, e1, k1⟩ := hk_copyFrom (N := N) (a := 94) (b := 76) (by omega) sx
  obtain ⟨sm1, e2, k2⟩ := hk_copies (N := N) (a := 1) (b := 0) hN (by omega) (by omega) (by omega) sm
  have b := T.1
  have ex : ∀ c i, (c < 94 ∨ 102 < c) → hq_gi sx1 c i = hq_gi sx c i := fun c i hc => k1.1 c i (by omega)
  have em : ∀ c i, (c < 196 ∨ 205 < c) → hq_gi sm1 c i = hq_gi sm c i := fun c i hc => k2.1 c i (by unfold hm_sl; omega)
  refine ⟨sx1, sm1, e1, e2, k1, k2, fun c i h1 h2 h3 => k2.1 c i h3, hn_copy (by omega) (by omega) (by omega) k1 k2 W, ?_, ?_, ?_, ?_, ?_, by omega, ?_, ?_, ?_⟩
  · exact hr_told_f t2 (fun c i hc => ex c i (by omega)) (fun c i hc => k1.2.1 c i (by omega)) (fun c i h1 h2 => em c i (by omega)) T
  · unfold hl_S at S ⊢
    simp (disch := omega) only [ex]
    exact S
  · simp (disch := omega) only [ex]
    exact F
  · unfold hl_M at M ⊢
    simp (disch := omega) only [em]
    exact M
  · rw [k2.2.2.2.1 198 (by omega) (by omega)]; exact B
  · rw [em _ _ (by omega)]; exact I.1
  · rw [k1.2.2.1]; exact t1
  · unfold hl_X at X ⊢
    simp (disch := omega) only [ex]
    exact X
theorem hp_asItGoes {N : Nat} (hN : 100 < N) (I : hr_idle sm) (h : hr_T nc nl ng nt t bar fr to on sx sm) : ∃ sx1 sm1, f_X11_playAsItGoes N sx = some sx1 ∧ f_X12_copies N 1 0 sm = some sm1 ∧ hh_P nc nl ng nt t 103 94 1 fr to on bar false 0 sm sx1 sm1 ∧ hq_gr sx1 0 2 = t := by
  have t2 := h.1.2.1
  obtain ⟨sx1, sm1, e1, e2, -, -, O, W, T, S, F, M, B, Bl, tw, r, -⟩ := hp_play hN I h
  refine ⟨hp_su sx1 t 103 94 1, sm1, ?_, e2, hp_up T t2 (Or.inl rfl) (Or.inr rfl) S F M B Bl ?_ W ?_ O, ?_⟩
  · unfold f_X11_playAsItGoes
    rw [e1, Option.bind_some, if_pos (by rw [r]; exact t2), r, hp_setUp]
    rfl
  · rw [tw]; decide
  · unfold hh_M
    rw [tw, hp_su_3.2.2.2.1, hp_su_3.2.2.2.2.1, hp_su_3.2.2.2.2.2]
    exact ⟨Or.inr ⟨rfl, by decide⟩, Or.inl ⟨rfl, by decide⟩, Or.inr (Or.inr ⟨by decide, by decide, Or.inl ⟨rfl, rfl⟩⟩)⟩
  · rw [hp_su_r (by omega)]; exact r
end
section
variable {N nc nl ng nt t u k bar : Nat} {fr to on : Nat → Nat} {both : Bool} {o : hq_S}
theorem hp_manyL (hN : 100 < N) {n : Nat} (hn : n ≤ 200) : ∀ (q j m m' : Nat) (sx sm : hq_S), hh_P nc nl ng nt t u k 1 fr to on bar both 0 o sx sm → j + q = n → q < m → q < m' → ∃ sx' sm', f_X3_passMany_L2 N m (Int32.ofNat n) (Int32.ofNat j) sx = some sx' ∧ f_X12_goesOn_L2 N m' (Int32.ofNat n) (Int32.ofNat j) sm = some sm' ∧ hh_P nc nl ng nt t u k 1 fr to on bar both 0 o sx' sm' := by
  intro q
  induction q with
  | zero =>
    intro j m m' sx sm P hj hm hm'
    obtain ⟨m, rfl⟩ : ∃ k, m = k + 1 := ⟨m - 1, by omega⟩
    obtain ⟨m', rfl⟩ : ∃ k, m' = k + 1 := ⟨m' - 1, by omega⟩
    have c : ¬ Int32.ofNat j < Int32.ofNat n := by rw [nn_lt (by omega) (by omega)]; omega
    refine ⟨sx, sm, ?_, ?_, P⟩
    · simp only [f_X3_passMany_L2_s, f_X3_passMany_L2_B, if_neg c]
    · simp only [f_X12_goesOn_L2_s, f_X12_goesOn_L2_B, if_neg c]
  | succ q ih =>
    intro j m m' sx sm P hj hm hm'
    obtain ⟨m, rfl⟩ : ∃ k, m = k + 1 := ⟨m - 1, by omega⟩
    obtain ⟨m', rfl⟩ : ∃ k, m' = k + 1 := ⟨m' - 1, by omega⟩
    have c : Int32.ofNat j < Int32.ofNat n := (nn_lt (by omega) (by omega)).mpr (by omega)
    obtain ⟨sx1, sm1, p1, p2, P1⟩ := hh_pass hN (by omega) P
    have p2 : f_X12_passes N 1 0 sm = some sm1 := p2
    obtain ⟨sx', sm', i1, i2, i3⟩ := ih (j + 1) m m' sx1 sm1 P1 (by omega) (by omega) (by omega)
    refine ⟨sx', sm', ?_, ?_, i3⟩
    · simp only [f_X3_passMany_L2_s, f_X3_passMany_L2_B, if_pos c, p1, Option.bind_some, nn_succ]
      exact i1
    · simp only [f_X12_goesOn_L2_s, f_X12_goesOn_L2_B, if_pos c, p2, Option.bind_some, nn_succ]
      exact i2
theorem hp_many (hN : 300 < N) {n : Nat} (hn : n ≤ 200) {sx sm : hq_S} (P : hh_P nc nl ng nt t u k 1 fr to on bar both 0 o sx sm) : ∃ sx' sm', f_X3_passMany N (Int32.ofNat n) sx = some sx' ∧ f_X12_goesOn N (Int32.ofNat n) sm = some sm' ∧ hh_P nc nl ng nt t u k 1 fr to on bar both 0 o sx' sm' := hp_manyL (by omega) hn n 0 N N sx sm P (by omega) (by omega) (by omega)
end
/-! sums -/
section
variable {N nc nl ng nt t k l : Nat} {sx sm : hq_S}
theorem hp_caught (hN : 10 < N) (hl : l < 23) (T : hr_told nc nl ng nt t sx sm) (W : hn_N nc ng nt k l sx sm) : ∃ v, f_X5_howManyCaught N k (Int32.ofNat nt) sx = some (v, sx) ∧ f_X12_caughtOnes N (Int32.ofNat l) sm = some (v, sm) := by
  obtain ⟨⟨hnc, -, hng, hnt⟩, ⟨-, -, -, -, -, -, t1, t2⟩, -⟩ := T
  have l3 : hq_ld sm 176 14 3 = some (Int32.ofNat nt) := by rw [nb_lit 3, nn_ld (by omega) (by omega), t2]
  have key : ∀ (q j m m' : Nat) (a : Int32), j + q = nt → q < m → q < m' → ∃ v, f_X5_howManyCaught_L4 N m k (Int32.ofNat nt) a (Int32.ofNat j) sx = some (v, sx) ∧ f_X12_caughtOnes_L4 N m' (Int32.ofNat l) a (Int32.ofNat j) sm = some (v, sm) := by
    intro q
    induction q with
    | zero =>
      intro j m m' a hj hm hm'
      obtain ⟨m, rfl⟩ : ∃ k, m = k + 1 := ⟨m - 1, by omega⟩
      obtain ⟨m', rfl⟩ : ∃ k, m' = k + 1 := ⟨m' - 1, by omega⟩
      have c : ¬ Int32.ofNat j < Int32.ofNat nt := by rw [nn_lt (by omega) (by omega)]; omega
      exact ⟨a, by simp only [f_X5_howManyCaught_L4_s, f_X5_howManyCaught_L4_B, if_neg c], by simp only [f_X12_caughtOnes_L4_s, f_X12_caughtOnes_L4_B, l3, Option.bind_some, if_neg c]⟩
    | succ q ih =>
      intro j m m' a hj hm hm'
      obtain ⟨m, rfl⟩ : ∃ k, m = k + 1 := ⟨m - 1, by omega⟩
      obtain ⟨m', rfl⟩ : ∃ k, m' = k + 1 := ⟨m' - 1, by omega⟩
      have c : Int32.ofNat j < Int32.ofNat nt := (nn_lt (by omega) (by omega)).mpr (by omega)
      obtain ⟨b, hb, f1, f2⟩ := hh_free (N := N) hl W hng hnt (show j < nt by omega)
      obtain ⟨v, i1, i2⟩ := ih (j + 1) m m' (a + (if b = 0 then 1 else 0)) (by omega) (by omega) (by omega)
      have e : (if b = 0 then some (1 : Int32) else some 0) = some (if b = 0 then 1 else 0) := by split <;> rfl
      refine ⟨v, ?_, ?_⟩
      · simp only [f_X5_howManyCaught_L4_s, f_X5_howManyCaught_L4_B, if_pos c, f1, Option.bind_some, e, nn_succ]
        exact i1
      · simp only [f_X12_caughtOnes_L4_s, f_X12_caughtOnes_L4_B, l3, if_pos c, f2, Option.bind_some, e, nn_succ]
        exact i2
  exact key nt 0 N N 0 (by omega) (by omega) (by omega)
/-- a sum over a row: the class's ends at n, the reference's goes on over noughts to w -/
theorem hp_sum0 {c w L : Nat} (hL : hq_alI c = some L) (hL2 : L < 2147483648) (hw : w * l + w ≤ L) (hw2 : w < 1000) (hz : ∀ i, i < w → hq_gi sm c (w * l + i) = 0) : ∀ (q j m : Nat) (a : Int32), j + q = w → q < m → f_X12_sumOf_L6 N m c (Int32.ofNat w) (Int32.ofNat l) a (Int32.ofNat j) sm = some (a, sm) := by
  intro q
  induction q with
  | zero =>
    intro j m a hj hm
    obtain ⟨m, rfl⟩ : ∃ k, m = k + 1 := ⟨m - 1, by omega⟩
    have cc : ¬ Int32.ofNat j < Int32.ofNat w := by rw [nn_lt (by omega) (by omega)]; omega
    simp only [f_X12_sumOf_L6_s, f_X12_sumOf_L6_B, if_neg cc]
  | succ q ih =>
    intro j m a hj hm
    obtain ⟨m, rfl⟩ : ∃ k, m = k + 1 := ⟨m - 1, by omega⟩
    have cc : Int32.ofNat j < Int32.ofNat w := (nn_lt (by omega) (by omega)).mpr (by omega)
    have ld : hq_ldiA sm c (Int32.ofNat (w * l + j)) = some 0 := by rw [nn_ldiA hL (by omega) hL2, hz j (by omega)]
    simp only [f_X12_sumOf_L6_s, f_X12_sumOf_L6_B, if_pos cc, nb_mul, nb_add, ld, Option.bind_some, Int32.add_zero, nn_succ]
    exact ih (j + 1) m a (by omega) (by omega)
end
