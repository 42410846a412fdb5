/-! AN HOUR: both let it go by alike -/
theorem nb_df_dis {a b i : Nat} (h : (nb_df a b).testBit i = true) : b.testBit i = false := by
  rw [nb_df_t] at h
  cases q : b.testBit i with
  | false => rfl
  | true => rw [q, Bool.not_true, Bool.and_false] at h; cases h
theorem bf_go_keep {nx : Nat → Nat} {nc c : Nat} : ∀ (f been e d : Nat) (row : Nat → Nat), been.testBit c = true → (∀ i, e.testBit i = true → been.testBit i = false) → bf_go nx nc f been e d row c = row c := by
  intro f
  induction f with
  | zero => intro been e d row _ _; rfl
  | succ f ih =>
    intro been e d row hc hd
    rw [bf_go]
    split
    · rfl
    · rw [ih _ _ _ _ (by rw [Nat.testBit_or, hc]; rfl) (fun i hi => nb_df_dis hi)]
      have : ¬ e.testBit c = true := fun h => by rw [hd c h] at hc; cases hc
      show (if e.testBit c = true then d else row c) = row c
      rw [if_neg this]
theorem bf_far_self {nx : Nat → Nat} {nc a : Nat} : bf_far nx nc a a = 0 := by
  unfold bf_far
  have h1 : (2 ^ a).testBit a = true := by rw [nb_2p]; exact decide_eq_true rfl
  rw [bf_go, if_neg (fun h => by rw [h, Nat.zero_testBit] at h1; cases h1)]
  rw [bf_go_keep _ _ _ _ _ (by rw [Nat.testBit_or, h1, Bool.or_true]) (fun i hi => nb_df_dis hi)]
  exact if_pos h1
section
variable {N nc nl ng nt t u k l : Nat} {nx : Nat → Nat} {fa : Nat → Nat → Nat} {bn : Int32} {o sx sm : hq_S}
theorem hh_take_all (hN : 100 < N) (hl : l < 23) : ∀ (q j m m' : Nat) (sx sm : hq_S), hh_C nc nl ng nt t u k l nx fa bn o sx sm → j + q = nt → q < m → q < m' → ∃ sx' sm', f_X3_pass_L73 N m (Int32.ofNat j) sx = some sx' ∧ f_X12_passes_L174 N m' (Int32.ofNat l) bn (Int32.ofNat j) sm = some sm' ∧ hh_C nc nl ng nt t u k l nx fa bn o sx' sm' := by
  intro q
  induction q with
  | zero =>
    intro j m m' sx sm C hj hm hm'
    obtain ⟨m, rfl⟩ : ∃ k, m = k + 1 := ⟨m - 1, by omega⟩
    obtain ⟨m', rfl⟩ : ∃ k, m' = k + 1 := ⟨m' - 1, by omega⟩
    have C0 := C
    obtain ⟨⟨⟨⟨hnc, -, hng, hnt⟩, ⟨-, -, -, -, -, -, t1, t2⟩, -⟩, ⟨dt, du, dk⟩, ⟨r0, r1, r2⟩, -⟩, W, -⟩ := C
    have iT : hq_isT t := dt
    have iN : hq_isN k := by rcases dk with rfl | rfl <;> decide
    have c : ¬ Int32.ofNat j < Int32.ofNat nt := by rw [nn_lt (by omega) (by omega)]; omega
    have l3 : hq_ld sm 176 14 3 = some (Int32.ofNat nt) := by rw [nb_lit 3, nn_ld (by omega) (by omega), t2]
    have lh : hq_ld sm 196 23 (Int32.ofNat l) = some (hq_gi sm 196 l) := nn_ld (by omega) (by omega)
    have sh : ∀ x, hq_st sm 196 23 (Int32.ofNat l) x = some (hq_si sm 196 l x) := fun x => nn_st (by omega) (by omega)
    refine ⟨_, _, ?_, ?_, hh_C_w (by omega) (by omega) (by unfold hm_sl; omega) (hn_hour (x := hq_gi sm 196 l + 1) dk W) C0⟩
    · simp only [f_X3_pass_L73_s, f_X3_pass_L73_B, r0, if_pos iT, t1, if_neg c, r2, if_pos iN, W.1, nn_pi, Option.bind_some]
    · simp only [f_X12_passes_L174_s, f_X12_passes_L174_B, l3, Option.bind_some, if_neg c, lh, sh]
  | succ q ih =>
    intro j m m' sx sm C hj hm hm'
    obtain ⟨m, rfl⟩ : ∃ k, m = k + 1 := ⟨m - 1, by omega⟩
    obtain ⟨m', rfl⟩ : ∃ k, m' = k + 1 := ⟨m' - 1, by omega⟩
    have C0 := C
    obtain ⟨⟨⟨⟨hnc, -, hng, hnt⟩, ⟨-, -, -, -, -, -, t1, t2⟩, -⟩, ⟨dt, du, dk⟩, ⟨r0, r1, r2⟩, -⟩, W, -⟩ := C
    have iT : hq_isT t := dt
    have iN : hq_isN k := by rcases dk with rfl | rfl <;> decide
    have c : Int32.ofNat j < Int32.ofNat nt := (nn_lt (by omega) (by omega)).mpr (by omega)
    have l3 : hq_ld sm 176 14 3 = some (Int32.ofNat nt) := by rw [nb_lit 3, nn_ld (by omega) (by omega), t2]
    have d10 : ¬ (1 : Int32) = 0 := by decide
    obtain ⟨b, hb, f1, f2⟩ := hh_free (N := N) hl W hng hnt (show j < nt by omega)
    rcases hb with rfl | rfl
    · obtain ⟨sx', sm', i1, i2, i3⟩ := ih (j + 1) m m' sx sm C0 (by omega) (by omega) (by omega)
      refine ⟨sx', sm', ?_, ?_, i3⟩
      · simp only [f_X3_pass_L73_s, f_X3_pass_L73_B, r0, if_pos iT, t1, if_pos c, r2, if_pos iN, f1, Option.bind_some, if_true, nn_succ]
        exact i1
      · simp only [f_X12_passes_L174_s, f_X12_passes_L174_B, l3, Option.bind_some, if_pos c, f2, if_true, nn_succ]
        exact i2
    · obtain ⟨sx1, sm1, k1, k2, C1⟩ := hh_take hN hl C0 (show j < nt by omega)
      obtain ⟨sx', sm', i1, i2, i3⟩ := ih (j + 1) m m' sx1 sm1 C1 (by omega) (by omega) (by omega)
      refine ⟨sx', sm', ?_, ?_, i3⟩
      · simp only [f_X3_pass_L73_s, f_X3_pass_L73_B, r0, if_pos iT, t1, if_pos c, r2, if_pos iN, f1, Option.bind_some, if_neg d10, k1, nn_succ]
        exact i1
      · simp only [f_X12_passes_L174_s, f_X12_passes_L174_B, l3, Option.bind_some, if_pos c, f2, if_neg d10, k2, nn_succ]
        exact i2
theorem hh_catch_all (hN : 100 < N) (hl : l < 23) : ∀ (q j m m' : Nat) (sx sm : hq_S), hh_C nc nl ng nt t u k l nx fa bn o sx sm → j + q = ng → q < m → q < m' → ∃ sx' sm', f_X3_pass_L49 N m (Int32.ofNat j) sx = some sx' ∧ f_X12_passes_L64 N m' (Int32.ofNat l) bn (Int32.ofNat j) sm = some sm' ∧ hh_C nc nl ng nt t u k l nx fa bn o sx' sm' := by
  intro q
  induction q with
  | zero =>
    intro j m m' sx sm C hj hm hm'
    obtain ⟨m, rfl⟩ : ∃ k, m = k + 1 := ⟨m - 1, by omega⟩
    obtain ⟨m', rfl⟩ : ∃ k, m' = k + 1 := ⟨m' - 1, by omega⟩
    have hnt := C.1.1.1.2.2.2
    obtain ⟨sx', sm', i1, i2, i3⟩ := hh_take_all (N := N) hN hl nt 0 N N sx sm C (by omega) (by omega) (by omega)
    obtain ⟨⟨⟨⟨hnc, -, hng, -⟩, ⟨-, -, -, -, g1, g2, -⟩, -⟩, ⟨dt, du, dk⟩, ⟨r0, r1, r2⟩, -⟩, W, -⟩ := C
    have iT : hq_isT t := dt
    have c : ¬ Int32.ofNat j < Int32.ofNat ng := by rw [nn_lt (by omega) (by omega)]; omega
    have l2 : hq_ld sm 176 14 2 = some (Int32.ofNat ng) := by rw [nb_lit 2, nn_ld (by omega) (by omega), g2]
    refine ⟨sx', sm', ?_, ?_, i3⟩
    · simp only [f_X3_pass_L49_s, f_X3_pass_L49_B, r0, if_pos iT, g1, if_neg c]
      exact i1
    · simp only [f_X12_passes_L64_s, f_X12_passes_L64_B, l2, Option.bind_some, if_neg c]
      exact i2
  | succ q ih =>
    intro j m m' sx sm C hj hm hm'
    obtain ⟨m, rfl⟩ : ∃ k, m = k + 1 := ⟨m - 1, by omega⟩
    obtain ⟨m', rfl⟩ : ∃ k, m' = k + 1 := ⟨m' - 1, by omega⟩
    have hnt := C.1.1.1.2.2.2
    obtain ⟨sx1, sm1, k1, k2, C1⟩ := hh_catch (N := N) (q64 := f_X12_passes_L64 N m') hl (show j < ng by omega) nt 0 N N sx sm C (by omega) (by omega) (by omega)
    obtain ⟨sx', sm', i1, i2, i3⟩ := ih (j + 1) m m' sx1 sm1 C1 (by omega) (by omega) (by omega)
    obtain ⟨⟨⟨⟨hnc, -, hng, -⟩, ⟨-, -, -, -, g1, g2, -⟩, -⟩, ⟨dt, du, dk⟩, ⟨r0, r1, r2⟩, -⟩, W, -⟩ := C
    have iT : hq_isT t := dt
    have c : Int32.ofNat j < Int32.ofNat ng := (nn_lt (by omega) (by omega)).mpr (by omega)
    have l2 : hq_ld sm 176 14 2 = some (Int32.ofNat ng) := by rw [nb_lit 2, nn_ld (by omega) (by omega), g2]
    have k1 : f_X3_catchBy N (Int32.ofNat j) sx = some sx1 := k1
    refine ⟨sx', sm', ?_, ?_, i3⟩
    · simp only [f_X3_pass_L49_s, f_X3_pass_L49_B, r0, if_pos iT, g1, if_pos c, k1, Option.bind_some, nn_succ]
      exact i1
    · simp only [f_X12_passes_L64_s, f_X12_passes_L64_B, l2, Option.bind_some, if_pos c]
      rw [nb_0, k2]
      exact i2
theorem hh_stir_all (hN : 100 < N) (hl : l < 23) : ∀ (q j m m' : Nat) (sx sm : hq_S), hh_C nc nl ng nt t u k l nx fa bn o sx sm → j + q = nt → q < m → q < m' → ∃ sx' sm', f_X3_pass_L6 N m (Int32.ofNat j) sx = some sx' ∧ f_X12_passes_L31 N m' (Int32.ofNat l) bn (Int32.ofNat j) sm = some sm' ∧ hh_C nc nl ng nt t u k l nx fa bn o sx' sm' := by
  intro q
  induction q with
  | zero =>
    intro j m m' sx sm C hj hm hm'
    obtain ⟨m, rfl⟩ : ∃ k, m = k + 1 := ⟨m - 1, by omega⟩
    obtain ⟨m', rfl⟩ : ∃ k, m' = k + 1 := ⟨m' - 1, by omega⟩
    have hng := C.1.1.1.2.2.1
    obtain ⟨sx', sm', i1, i2, i3⟩ := hh_catch_all (N := N) hN hl ng 0 N N sx sm C (by omega) (by omega) (by omega)
    obtain ⟨⟨⟨⟨hnc, -, -, hnt⟩, ⟨-, -, -, -, -, -, t1, t2⟩, -⟩, ⟨dt, du, dk⟩, ⟨r0, r1, r2⟩, -⟩, W, -⟩ := C
    have iT : hq_isT t := dt
    have c : ¬ Int32.ofNat j < Int32.ofNat nt := by rw [nn_lt (by omega) (by omega)]; omega
    have l3 : hq_ld sm 176 14 3 = some (Int32.ofNat nt) := by rw [nb_lit 3, nn_ld (by omega) (by omega), t2]
    refine ⟨sx', sm', ?_, ?_, i3⟩
    · simp only [f_X3_pass_L6_s, f_X3_pass_L6_B, r0, if_pos iT, t1, if_neg c]
      exact i1
    · simp only [f_X12_passes_L31_s, f_X12_passes_L31_B, l3, Option.bind_some, if_neg c]
      exact i2
  | succ q ih =>
    intro j m m' sx sm C hj hm hm'
    obtain ⟨m, rfl⟩ : ∃ k, m = k + 1 := ⟨m - 1, by omega⟩
    obtain ⟨m', rfl⟩ : ∃ k, m' = k + 1 := ⟨m' - 1, by omega⟩
    have C0 := C
    obtain ⟨⟨⟨⟨hnc, -, hng, hnt⟩, ⟨-, -, -, -, -, -, t1, t2⟩, -⟩, ⟨dt, du, dk⟩, ⟨r0, r1, r2⟩, -⟩, W, -⟩ := C
    have iT : hq_isT t := dt
    have iN : hq_isN k := by rcases dk with rfl | rfl <;> decide
    have c : Int32.ofNat j < Int32.ofNat nt := (nn_lt (by omega) (by omega)).mpr (by omega)
    have l3 : hq_ld sm 176 14 3 = some (Int32.ofNat nt) := by rw [nb_lit 3, nn_ld (by omega) (by omega), t2]
    have d10 : ¬ (1 : Int32) = 0 := by decide
    obtain ⟨b, hb, f1, f2⟩ := hh_free (N := N) hl W hng hnt (show j < nt by omega)
    rcases hb with rfl | rfl
    · obtain ⟨sx', sm', i1, i2, i3⟩ := ih (j + 1) m m' sx sm C0 (by omega) (by omega) (by omega)
      refine ⟨sx', sm', ?_, ?_, i3⟩
      · simp only [f_X3_pass_L6_s, f_X3_pass_L6_B, r0, if_pos iT, t1, if_pos c, r2, if_pos iN, f1, Option.bind_some, if_true, nn_succ]
        exact i1
      · simp only [f_X12_passes_L31_s, f_X12_passes_L31_B, l3, Option.bind_some, if_pos c, f2, if_true, nn_succ]
        exact i2
    · obtain ⟨b, sx1, sx2, sm1, k1, k2, k3, C1⟩ := hh_stir hN hl C0 (show j < nt by omega)
      obtain ⟨sx', sm', i1, i2, i3⟩ := ih (j + 1) m m' sx2 sm1 C1 (by omega) (by omega) (by omega)
      refine ⟨sx', sm', ?_, ?_, i3⟩
      · rcases k2 with ⟨rfl, rfl⟩ | ⟨rfl, k2⟩
        · simp only [f_X3_pass_L6_s, f_X3_pass_L6_B, r0, if_pos iT, t1, if_pos c, r2, if_pos iN, f1, Option.bind_some, if_neg d10, k1, if_true, nn_succ]
          exact i1
        · simp only [f_X3_pass_L6_s, f_X3_pass_L6_B, r0, if_pos iT, t1, if_pos c, r2, if_pos iN, f1, Option.bind_some, if_neg d10, k1, k2, nn_succ]
          exact i1
      · simp only [f_X12_passes_L31_s, f_X12_passes_L31_B, l3, Option.bind_some, if_pos c, f2, if_neg d10, k3, nn_succ]
        exact i2
end
/-- between hours: the class's streets are those of the lanes; the reference lays its own each hour -/
def hh_P (nc nl ng nt t u k l : Nat) (fr to on : Nat → Nat) (bar : Nat) (both : Bool) (bn : Int32) (o sx sm : hq_S) : Prop :=
  hr_told nc nl ng nt t sx sm ∧ ((t = 2 ∨ t = 25) ∧ (u = 103 ∨ u = 108) ∧ (k = 76 ∨ k = 94)) ∧ (hq_gr sx 113 0 = t ∧ hq_gr sx 113 1 = u ∧ hq_gr sx 113 2 = k) ∧
  hl_S u nc (ly_nx fr to on bar both nl) sx ∧ (∀ a b, a < nc → b < nc → hq_gi sx (u + 2) (10 * a + b) = Int32.ofNat (bf_far (ly_nx fr to on bar both nl) nc a b)) ∧
  (hl_M nl nc fr to on sm ∧ hq_gi sm 198 l = Int32.ofNat bar ∧ bar < 2147483648 ∧ (both = true ↔ hq_gi sm 174 49 = 4)) ∧
  hn_N nc ng nt k l sx sm ∧ hh_M bn sx sm ∧ hm_o l o sm
section
variable {N nc nl ng nt t u k l bar : Nat} {fr to on : Nat → Nat} {both : Bool} {bn : Int32} {o sx sm : hq_S}
/-- behind the reference's lays both have the same streets -/
theorem hh_lay (hN : 100 < N) (hl : l < 23) (P : hh_P nc nl ng nt t u k l fr to on bar both bn o sx sm) : ∃ sm1, f_X12_lays N (Int32.ofNat l) sm = some sm1 ∧ hh_C nc nl ng nt t u k l (ly_nx fr to on bar both nl) (bf_far (ly_nx fr to on bar both nl) nc) bn o sx sm1 := by
  obtain ⟨T, d3, r3, X, fx, ⟨hM, hb1, hb2, hb3⟩, W, M, O⟩ := P
  obtain ⟨g, f, e1, e2, e3⟩ := hm_lays (N := N) hl hN hb3 hb1 hb2 hM
  have hx := ly_nx_lt (fr := fr) (to := to) (on := on) (bar := bar) (both := both) (nc := nc) (n := nl) fun k hk => ⟨(hM.2.2.2.2 k hk).1, (hM.2.2.2.2 k hk).2.1⟩
  have em : ∀ c i, c < 206 → hq_gi (hq_w (hq_w sm 206 g) 207 f) c i = hq_gi sm c i := fun c i hc => by rw [hw_n (by omega), hw_n (by omega)]
  refine ⟨_, e1, ⟨?_, d3, r3, ⟨hx, bf_far_lt _ _⟩, X, ?_, fx, fun a b ha hb => ?_⟩, ?_, ?_, ?_⟩
  · unfold hr_told hr_rule at T ⊢
    simp (disch := omega) only [em]
    exact T
  · refine ⟨by rw [em _ _ (by omega), hM.2.2.1], fun c hc => ?_⟩
    rw [hw_n (by omega), hw_g]
    exact e2 c hc
  · rw [hw_g]
    exact e3 a b ha hb
  · unfold hn_N hn_bold at W ⊢
    simp (disch := omega) only [em]
    exact W
  · exact hh_M_f (fun _ => rfl) (em _ _ (by omega)) (em _ _ (by omega)) M
  · exact fun c i h1 h2 h3 => (em _ _ (by omega)).trans (O c i h1 h2 h3)
theorem hh_pass (hN : 100 < N) (hl : l < 23) (P : hh_P nc nl ng nt t u k l fr to on bar both bn o sx sm) : ∃ sx' sm', f_X3_pass N sx = some sx' ∧ f_X12_passes N (Int32.ofNat l) bn sm = some sm' ∧ hh_P nc nl ng nt t u k l fr to on bar both bn o sx' sm' := by
  obtain ⟨sm1, l1, C⟩ := hh_lay hN hl P
  have hng := C.1.1.1.2.2.1
  have hnt := C.1.1.1.2.2.2
  obtain ⟨sx2, sm2, w1, w2, C2⟩ := hh_walks (N := N) (bn := bn) hN hl (fun a _ => bf_far_self) hw_Q_C ng 0 N N sx sm1 C (by omega) (by omega) (by omega)
  obtain ⟨sx3, sm3, s1, s2, C3⟩ := hh_stir_all hN hl nt 0 N N sx2 sm2 C2 (by omega) (by omega) (by omega)
  have w1 : f_X3_walkBeats N sx = some sx2 := w1
  have p1 : f_X3_pass N sx = some sx3 := by
    unfold f_X3_pass
    rw [w1, Option.bind_some]
    exact s1
  have p2 : f_X12_passes N (Int32.ofNat l) bn sm = some sm3 := by
    unfold f_X12_passes
    rw [l1, Option.bind_some, nb_0, w2]
    exact s2
  refine ⟨sx3, sm3, p1, p2, C3.1.1, C3.1.2.1, C3.1.2.2.1, C3.1.2.2.2.2.1, C3.1.2.2.2.2.2.2.1, ⟨?_, ?_, P.2.2.2.2.2.1.2.2.1, ?_⟩, C3.2.1, C3.2.2.1, C3.2.2.2⟩
  · have h := f_X12_passes_fw p2
    have e0 : ∀ i, hq_gi sm3 176 i = hq_gi sm 176 i := fun i => (h 176 i rfl).1
    have e1 : ∀ i, hq_gi sm3 180 i = hq_gi sm 180 i := fun i => (h 180 i rfl).1
    have e2 : ∀ i, hq_gi sm3 181 i = hq_gi sm 181 i := fun i => (h 181 i rfl).1
    have e3 : ∀ i, hq_gi sm3 182 i = hq_gi sm 182 i := fun i => (h 182 i rfl).1
    have hM := P.2.2.2.2.2.1.1
    unfold hl_M at hM ⊢
    simp only [e0, e1, e2, e3]
    exact hM
  · rw [(f_X12_passes_fw p2 198 l rfl).1]
    exact P.2.2.2.2.2.1.2.1
  · rw [(f_X12_passes_fw p2 174 49 rfl).1]
    exact P.2.2.2.2.2.1.2.2.2
end
