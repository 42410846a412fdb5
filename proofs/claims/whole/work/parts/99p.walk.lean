/-! BEATS: both walk alike -/
theorem nb_same {s : hq_S} {k i : Nat} {x : Int32} (h : hq_gi s k i = x) : hq_si s k i x = s := hw_ext (fun k' i' => by
  rw [nb_ii]
  by_cases q : k' = k ∧ i' = i
  · rw [if_pos q, q.1, q.2, h]
  · rw [if_neg q]) (fun _ _ => rfl) fun _ _ => rfl
section
variable {N nc nl ng nt t u k l : Nat} {nx : Nat → Nat} {fa : Nat → Nat → Nat} {bn : Int32} {o sx sm : hq_S}
theorem hh_C_aim {g a b : Nat} (hg : g < ng) (ha : a < 8) (hb : hq_gi sm 185 g = Int32.ofNat b) (hab : a < b ∧ b ≤ 8) (C : hh_C nc nl ng nt t u k l nx fa bn o sx sm) : hh_C nc nl ng nt t u k l nx fa bn o (hq_si sx (k + 3) g (Int32.ofNat a)) (hq_si sm 201 (3 * l + g) (Int32.ofNat a)) := by
  have hng := C.1.1.1.2.2.1
  have dk := C.1.2.1.2.2
  exact hh_C_w (by omega) (by omega) (by unfold hm_sl; omega) (hn_aim dk hg ha hb hab C.2.1) C
/-- what the walk of beats rests on, and what must hold behind its writes -/
def hw_Q (nc nl ng nt t u k l : Nat) (nx : Nat → Nat) (fa : Nat → Nat → Nat) (Q : hq_S → hq_S → Prop) : Prop :=
  (∀ sx sm, Q sx sm → hh_S nc nl ng nt t u k nx fa sx sm ∧ (∀ i, i < ng → hr_lt nc (hq_gi sx (k + 2) i) (hq_gi sm 200 (3 * l + i)) ∧ (∃ a : Nat, a < 8 ∧ (a = 0 ∨ ∃ b : Nat, hq_gi sm 185 i = Int32.ofNat b ∧ a < b ∧ b ≤ 8) ∧ hq_gi sx (k + 3) i = Int32.ofNat a ∧ hq_gi sm 201 (3 * l + i) = Int32.ofNat a)) ∧ ((hq_gi sx 113 4 = -1 ∧ ¬ hq_gi sm 174 49 = 2) ∨ (hq_gi sm 174 49 = 2 ∧ hq_gi sx 113 4 = hq_gi sm 174 50))) ∧
  (∀ sx sm g b, Q sx sm → g < ng → b < nc → Q (hq_si sx (k + 2) g (Int32.ofNat b)) (hq_si sm 200 (3 * l + g) (Int32.ofNat b))) ∧
  (∀ sx sm g a b, Q sx sm → g < ng → a < 8 → hq_gi sm 185 g = Int32.ofNat b → a < b ∧ b ≤ 8 → Q (hq_si sx (k + 3) g (Int32.ofNat a)) (hq_si sm 201 (3 * l + g) (Int32.ofNat a)))
theorem hw_Q_C : hw_Q nc nl ng nt t u k l nx fa (hh_C nc nl ng nt t u k l nx fa bn o) := by
  refine ⟨fun sx sm C => ⟨C.1, fun i hi => ⟨(C.2.1.2.2.2.2.2.1 i hi).1, (C.2.1.2.2.2.2.2.1 i hi).2.1⟩, C.2.2.1.2.1⟩, fun sx sm g b C hg hb => ?_, fun sx sm g a b C hg ha hb hab => hh_C_aim hg ha hb hab C⟩
  have hng := C.1.1.1.2.2.1
  have dk := C.1.2.1.2.2
  exact hh_C_w (by omega) (by omega) (by unfold hm_sl; omega) (hn_guard dk hg hb C.2.1) C
variable {Q : hq_S → hq_S → Prop}
theorem hh_walkJ (hN : 100 < N) (hl : l < 23) (F0 : ∀ a, a < nc → fa a a = 0) (hQ : hw_Q nc nl ng nt t u k l nx fa Q) (C : Q sx sm) {g e a p : Nat} (hg : g < ng) (he : e < nc) (ha : a < 8) (hp : p < nc) (e1 : hq_gi sx (k + 2) g = Int32.ofNat e) (e2 : hq_gi sm 200 (3 * l + g) = Int32.ofNat e) (a1 : hq_gi sx (k + 3) g = Int32.ofNat a) (a2 : hq_gi sm 201 (3 * l + g) = Int32.ofNat a) (p1 : hq_gi sx (t + 6) (8 * g + a) = Int32.ofNat p) (p2 : hq_gi sm 186 (8 * g + a) = Int32.ofNat p) : ∃ sx' sm', f_X3_walkBeat_J93 N (Int32.ofNat g) (Int32.ofNat e) sx = some sx' ∧ ((hq_ld sm 201 69 (Int32.ofNat (3 * l + g))).bind fun x13 => (hq_ld sm 186 48 (((8 : Int32) * Int32.ofNat g) + x13)).bind fun x14 => (hq_ld sm 200 69 (Int32.ofNat (3 * l + g))).bind fun x15 => if x15 = x14 then some sm else (hq_ld sm 200 69 (Int32.ofNat (3 * l + g))).bind fun x17 => (f_X12_nearer N x17 x14 sm).bind fun y18 => (hq_st y18.2 200 69 (Int32.ofNat (3 * l + g)) y18.1).bind fun s19 => some s19) = some sm' ∧ Q sx' sm' := by
  have C0 := C
  obtain ⟨S, W, M⟩ := hQ.1 _ _ C
  have S0 := S
  obtain ⟨T, ⟨dt, du, dk⟩, ⟨r0, r1, r2⟩, -⟩ := S
  obtain ⟨⟨hnc, -, hng, hnt⟩, -⟩ := T
  have iT : hq_isT t := dt
  have iS : hq_isS u := du
  have iN : hq_isN k := by rcases dk with rfl | rfl <;> decide
  have x1 : hq_ld sx (k + 3) 3 (Int32.ofNat g) = some (Int32.ofNat a) := by rw [nn_ld (by omega) (by omega), a1]
  have x2 : hq_ld sx (t + 6) 24 (Int32.ofNat (8 * g + a)) = some (Int32.ofNat p) := by rw [nn_ld (by omega) (by omega), p1]
  have x3 : ∀ y, hq_st sx (k + 2) 3 (Int32.ofNat g) y = some (hq_si sx (k + 2) g y) := fun y => nn_st (by omega) (by omega)
  have m1 : hq_ld sm 201 69 (Int32.ofNat (3 * l + g)) = some (Int32.ofNat a) := by rw [nn_ld (by omega) (by omega), a2]
  have m2 : hq_ld sm 186 48 (Int32.ofNat (8 * g + a)) = some (Int32.ofNat p) := by rw [nn_ld (by omega) (by omega), p2]
  have m3 : hq_ld sm 200 69 (Int32.ofNat (3 * l + g)) = some (Int32.ofNat e) := by rw [nn_ld (by omega) (by omega), e2]
  have m4 : ∀ y, hq_st sm 200 69 (Int32.ofNat (3 * l + g)) y = some (hq_si sm 200 (3 * l + g) y) := fun y => nn_st (by omega) (by omega)
  have eq := nb_eq (show e < 2147483648 by omega) (show p < 2147483648 by omega)
  have sx0 : hq_si sx (k + 2) g (Int32.ofNat e) = sx := nb_same e1
  have sm0 : hq_si sm 200 (3 * l + g) (Int32.ofNat e) = sm := nb_same e2
  rcases hh_on (N := N) (by omega) S0 he hp with ⟨o1, o2, -⟩ | ⟨c, hc, hlt, -, o1, o2⟩
  · refine ⟨sx, sm, ?_, ?_, C0⟩
    · simp only [f_X3_walkBeat_J93, r0, r1, r2, if_pos iT, if_pos iS, if_pos iN, x1, nb_8m, nb_add, x2, Option.bind_some, o1, if_true, x3, sx0]
    · by_cases q : e = p
      · simp only [m1, Option.bind_some, nb_m8, nb_add, m2, m3, eq, if_pos q]
      · simp only [m1, Option.bind_some, nb_m8, nb_add, m2, m3, eq, if_neg q, o2, m4, sm0]
  · have q : ¬ e = p := by
      intro q
      subst q
      rw [F0 e he] at hlt
      omega
    have n1 : ¬ Int32.ofNat c = -1 := fun q => nn_nlt0 (a := c) (by omega) (by rw [q]; decide)
    refine ⟨_, _, ?_, ?_, hQ.2.1 _ _ _ _ C0 hg hc⟩
    · simp only [f_X3_walkBeat_J93, r0, r1, r2, if_pos iT, if_pos iS, if_pos iN, x1, nb_8m, nb_add, x2, Option.bind_some, o1, if_neg n1, x3]
    · simp only [m1, Option.bind_some, nb_m8, nb_add, m2, m3, eq, if_neg q, o2, m4]
theorem hh_walk (hN : 100 < N) (hl : l < 23) (F0 : ∀ a, a < nc → fa a a = 0) (hQ : hw_Q nc nl ng nt t u k l nx fa Q) (C : Q sx sm) {g : Nat} (hg : g < ng) : ∃ sx' sm', (if 0 < hq_gi sx (t + 7) g then if Int32.ofNat g = (hq_gi sx 113 4) then some sx else (f_X3_walkBeat N (Int32.ofNat g) sx).bind fun s8 => some s8 else some sx) = some sx' ∧ f_X12_walks N (Int32.ofNat l) (Int32.ofNat g) sm = some sm' ∧ Q sx' sm' := by
  have C0 := C
  obtain ⟨S, W, M⟩ := hQ.1 _ _ C
  obtain ⟨T, ⟨dt, du, dk⟩, ⟨r0, r1, r2⟩, -⟩ := S
  obtain ⟨⟨hnc, -, hng, hnt⟩, -, -, -, -, tg, -⟩ := T
  obtain ⟨-, -, b, hb, bx, bm, bt⟩ := tg g hg
  have lb : hq_ld sm 185 6 (Int32.ofNat g) = some (Int32.ofNat b) := by rw [nn_ld (by omega) (by omega), bm]
  have b0 := nb_eq0 (show b < 2147483648 by omega)
  have iT : hq_isT t := dt
  have iN : hq_isN k := by rcases dk with rfl | rfl <;> decide
  rw [bx]
  by_cases qb : b = 0
  · have n0 : ¬ (0 : Int32) < Int32.ofNat b := by rw [nb_0, nn_lt (by omega) (by omega)]; omega
    refine ⟨sx, sm, by rw [if_neg n0], ?_, C0⟩
    simp only [f_X12_walks, lb, Option.bind_some, b0, if_pos qb]
  · have n0 : (0 : Int32) < Int32.ofNat b := by rw [nb_0, nn_lt (by omega) (by omega)]; omega
    rw [if_pos n0]
    -- he walks
    have walk : ∃ sx' sm', ((f_X3_walkBeat N (Int32.ofNat g) sx).bind fun s8 => some s8) = some sx' ∧ f_X12_walks_J32 N (Int32.ofNat l) (Int32.ofNat g) (Int32.ofNat (3 * l + g)) sm = some sm' ∧ Q sx' sm' := by
      obtain ⟨⟨e, he, e1, e2⟩, ⟨a, ha, hab, a1, a2⟩⟩ := W g hg
      have hab : a < b := by
        rcases hab with h | ⟨b', hb', h1, h2⟩
        · omega
        · rw [bm] at hb'
          have := (nn_inj (by omega) (by omega)).mp hb'
          omega
      obtain ⟨p, hp, p1, p2⟩ := bt a hab
      have x0 : hq_ld sx (k + 2) 3 (Int32.ofNat g) = some (Int32.ofNat e) := by rw [nn_ld (by omega) (by omega), e1]
      have x1 : hq_ld sx (k + 3) 3 (Int32.ofNat g) = some (Int32.ofNat a) := by rw [nn_ld (by omega) (by omega), a1]
      have x2 : hq_ld sx (t + 6) 24 (Int32.ofNat (8 * g + a)) = some (Int32.ofNat p) := by rw [nn_ld (by omega) (by omega), p1]
      have x4 : hq_ld sx (t + 7) 3 (Int32.ofNat g) = some (Int32.ofNat b) := by rw [nn_ld (by omega) (by omega), bx]
      have x3 : ∀ y, hq_st sx (k + 3) 3 (Int32.ofNat g) y = some (hq_si sx (k + 3) g y) := fun y => nn_st (by omega) (by omega)
      have m1 : hq_ld sm 201 69 (Int32.ofNat (3 * l + g)) = some (Int32.ofNat a) := by rw [nn_ld (by omega) (by omega), a2]
      have m2 : hq_ld sm 186 48 (Int32.ofNat (8 * g + a)) = some (Int32.ofNat p) := by rw [nn_ld (by omega) (by omega), p2]
      have m3 : hq_ld sm 200 69 (Int32.ofNat (3 * l + g)) = some (Int32.ofNat e) := by rw [nn_ld (by omega) (by omega), e2]
      have m4 : ∀ y, hq_st sm 201 69 (Int32.ofNat (3 * l + g)) y = some (hq_si sm 201 (3 * l + g) y) := fun y => nn_st (by omega) (by omega)
      have eq1 := nb_eq (show p < 2147483648 by omega) (show e < 2147483648 by omega)
      have eq2 := nb_eq (show e < 2147483648 by omega) (show p < 2147483648 by omega)
      by_cases q : p = e
      · have rm : hq_irem (Int32.ofNat (a + 1)) (Int32.ofNat b) = some (Int32.ofNat ((a + 1) % b)) := nb_rem (by omega) (by omega) (by omega)
        have hm : (a + 1) % b < b := Nat.mod_lt _ (by omega)
        have C1 := hQ.2.2 _ _ g ((a + 1) % b) b C0 hg (Nat.lt_of_lt_of_le hm hb) bm ⟨hm, hb⟩
        obtain ⟨p', hp', p1', p2'⟩ := bt ((a + 1) % b) hm
        obtain ⟨sx', sm', j1, j2, j3⟩ := hh_walkJ (g := g) (e := e) (a := (a + 1) % b) (p := p') hN hl F0 hQ C1 hg he (Nat.lt_of_lt_of_le hm hb) hp' (by rw [nn_gk (by omega), e1]) (by rw [nn_gk (by omega), e2]) nn_g1 nn_g1 (by rw [nn_gk (by omega), p1']) (by rw [nn_gk (by omega), p2'])
        have z : (if Int32.ofNat (a + 1) < Int32.ofNat b then some (0 : Int32) else some 1) = some (if a + 1 < b then 0 else 1) := by
          by_cases h : a + 1 < b
          · rw [if_pos ((nn_lt (by omega) (by omega)).mpr h), if_pos h]
          · rw [if_neg (fun h' => h ((nn_lt (by omega) (by omega)).mp h')), if_neg h]
        refine ⟨sx', sm', ?_, ?_, j3⟩
        · by_cases h : a + 1 < b
          · have em : (a + 1) % b = a + 1 := Nat.mod_eq_of_lt h
            rw [em] at j1
            simp only [f_X3_walkBeat, r0, r2, if_pos iT, if_pos iN, x0, x1, x4, nb_8m, nb_add, x2, Option.bind_some, eq1, if_pos q, nn_succ, z, if_pos h, if_true, x3, j1]
          · have em : (a + 1) % b = 0 := by rw [show a + 1 = b by omega, Nat.mod_self]
            rw [em, ← nb_0] at j1
            simp only [f_X3_walkBeat, r0, r2, if_pos iT, if_pos iN, x0, x1, x4, nb_8m, nb_add, x2, Option.bind_some, eq1, if_pos q, nn_succ, z, if_neg h, if_neg (show ¬ (1 : Int32) = 0 by decide), x3, j1]
        · unfold f_X12_walks_J32
          rw [m3, Option.bind_some, m1, Option.bind_some, nb_m8, nb_add, m2, Option.bind_some]
          simp only [eq2, if_pos q.symm, lb, Option.bind_some, nn_succ, rm, m4]
          rw [nb_m8] at j2
          exact j2
      · obtain ⟨sx', sm', j1, j2, j3⟩ := hh_walkJ (g := g) (e := e) (a := a) (p := p) hN hl F0 hQ C0 hg he (by omega) hp e1 e2 a1 a2 p1 p2
        refine ⟨sx', sm', ?_, ?_, j3⟩
        · simp only [f_X3_walkBeat, r0, r2, if_pos iT, if_pos iN, x0, x1, nb_8m, nb_add, x2, Option.bind_some, eq1, if_neg q, j1]
        · unfold f_X12_walks_J32
          rw [m3, Option.bind_some, m1, Option.bind_some, nb_m8, nb_add, m2, Option.bind_some]
          simp only [eq2, if_neg (fun h : e = p => q h.symm), Option.bind_some]
          rw [nb_m8] at j2
          exact j2
    rcases M with ⟨s1, s2⟩ | ⟨s1, s2⟩
    · have n1 : ¬ Int32.ofNat g = -1 := fun q => nn_nlt0 (a := g) (by omega) (by rw [q]; decide)
      obtain ⟨sx', sm', w1, w2, w3⟩ := walk
      refine ⟨sx', sm', ?_, ?_, w3⟩
      · rw [s1, if_neg n1]
        exact w1
      · simp only [f_X12_walks, lb, Option.bind_some, b0, if_neg qb, if_neg s2, nb_m3, nb_add]
        exact w2
    · by_cases qg : Int32.ofNat g = hq_gi sm 174 50
      · refine ⟨sx, sm, ?_, ?_, C0⟩
        · rw [s2, if_pos qg]
        · simp only [f_X12_walks, lb, Option.bind_some, b0, if_neg qb, if_pos s1, if_pos qg]
      · obtain ⟨sx', sm', w1, w2, w3⟩ := walk
        refine ⟨sx', sm', ?_, ?_, w3⟩
        · rw [s2, if_neg qg]
          exact w1
        · simp only [f_X12_walks, lb, Option.bind_some, b0, if_neg qb, if_pos s1, if_neg qg, nb_m3, nb_add]
          exact w2
theorem hh_walks (hN : 100 < N) (hl : l < 23) (F0 : ∀ a, a < nc → fa a a = 0) (hQ : hw_Q nc nl ng nt t u k l nx fa Q) : ∀ (q j m m' : Nat) (sx sm : hq_S), Q sx sm → j + q = ng → q < m → q < m' → ∃ sx' sm', f_X3_walkBeats_L2 N m (Int32.ofNat j) sx = some sx' ∧ f_X12_passes_L7 N m' (Int32.ofNat l) bn (Int32.ofNat j) sm = f_X12_passes_L31 N N (Int32.ofNat l) bn 0 sm' ∧ Q sx' sm' := by
  intro q
  induction q with
  | zero =>
    intro j m m' sx sm C hj hm hm'
    obtain ⟨m, rfl⟩ : ∃ k, m = k + 1 := ⟨m - 1, by omega⟩
    obtain ⟨m', rfl⟩ : ∃ k, m' = k + 1 := ⟨m' - 1, by omega⟩
    have C0 := C
    obtain ⟨⟨⟨⟨hnc, -, hng, hnt⟩, ⟨-, -, -, -, g1, g2, -⟩, -⟩, ⟨dt, du, dk⟩, ⟨r0, r1, r2⟩, -⟩, -⟩ := hQ.1 _ _ C
    have iT : hq_isT t := dt
    have c : ¬ Int32.ofNat j < Int32.ofNat ng := by rw [nn_lt (by omega) (by omega)]; omega
    have l2 : hq_ld sm 176 14 2 = some (Int32.ofNat ng) := by rw [nb_lit 2, nn_ld (by omega) (by omega), g2]
    refine ⟨sx, sm, ?_, ?_, C0⟩
    · simp only [f_X3_walkBeats_L2_s, f_X3_walkBeats_L2_B, r0, if_pos iT, g1, if_neg c]
    · simp only [f_X12_passes_L7_s, f_X12_passes_L7_B, l2, Option.bind_some, if_neg c]
  | succ q ih =>
    intro j m m' sx sm C hj hm hm'
    obtain ⟨m, rfl⟩ : ∃ k, m = k + 1 := ⟨m - 1, by omega⟩
    obtain ⟨m', rfl⟩ : ∃ k, m' = k + 1 := ⟨m' - 1, by omega⟩
    obtain ⟨sx1, sm1, w1, w2, C1⟩ := hh_walk hN hl F0 hQ C (show j < ng by omega)
    obtain ⟨sx', sm', i1, i2, i3⟩ := ih (j + 1) m m' sx1 sm1 C1 (by omega) (by omega) (by omega)
    obtain ⟨⟨⟨⟨hnc, -, hng, hnt⟩, ⟨-, -, -, -, g1, g2, -⟩, -⟩, ⟨dt, du, dk⟩, ⟨r0, r1, r2⟩, -⟩, -⟩ := hQ.1 _ _ C
    have iT : hq_isT t := dt
    have c : Int32.ofNat j < Int32.ofNat ng := (nn_lt (by omega) (by omega)).mpr (by omega)
    have l2 : hq_ld sm 176 14 2 = some (Int32.ofNat ng) := by rw [nb_lit 2, nn_ld (by omega) (by omega), g2]
    have lb : hq_ld sx (t + 7) 3 (Int32.ofNat j) = some (hq_gi sx (t + 7) j) := nn_ld (by omega) (by omega)
    refine ⟨sx', sm', ?_, ?_, i3⟩
    · simp only [f_X3_walkBeats_L2_s, f_X3_walkBeats_L2_B, r0, if_pos iT, g1, if_pos c, lb, Option.bind_some, w1, nn_succ]
      exact i1
    · simp only [f_X12_passes_L7_s, f_X12_passes_L7_B, l2, Option.bind_some, if_pos c, w2, nn_succ]
      exact i2
end
