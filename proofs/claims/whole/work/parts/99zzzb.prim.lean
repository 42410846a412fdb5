/-! THE READER: names, numbers, corners -/
/-- both have found the same fault at the same place -/
def bad (sx sm : hq_S) : Prop := ∃ f : Nat, 1 ≤ f ∧ f ≤ 5 ∧ hq_gi sx 48 7 = Int32.ofNat f ∧ hq_gi sm 174 28 = Int32.ofNat f ∧ hq_gi sx 48 8 = hq_gi sm 174 29
section
variable {N L p pl q a b : Nat} {t : Nat → Nat} {sx sm : hq_S}
theorem tk_R_M {sm' : hq_S} (h : tk_R t L p pl q a b sx sm) (e : ∀ i, 23 ≤ i → i ≤ 27 → hq_gi sm' 174 i = hq_gi sm 174 i) (e5 : ∀ i, hq_gi sm' 175 i = hq_gi sm 175 i) : tk_R t L p pl q a b sx sm' := by
  obtain ⟨X, M, h3, h4, h5, h6, h7, h8⟩ := h
  exact ⟨X, ⟨(e 23 (by omega) (by omega)).trans M.1, fun i hi => (e5 i).trans (M.2 i hi)⟩, h3, ⟨h4.1, (e 24 (by omega) (by omega)).trans h4.2⟩, ⟨h5.1, (e 25 (by omega) (by omega)).trans h5.2⟩, ⟨h6.1, (e 26 (by omega) (by omega)).trans h6.2⟩, h7, fun g => ⟨(h8 g).1, (e 27 (by omega) (by omega)).trans (h8 g).2⟩⟩
theorem tk_R_X {sx' : hq_S} (h : tk_R t L p pl q a b sx sm) (e : ∀ i, 2 ≤ i → i ≤ 6 → hq_gi sx' 49 i = hq_gi sx 49 i) (e1 : ∀ i, hq_gi sx' 1 i = hq_gi sx 1 i) (e5 : ∀ i, hq_gi sx' 50 i = hq_gi sx 50 i) (er : hq_gr sx' 49 1 = hq_gr sx 49 1) : tk_R t L p pl q a b sx' sm := by
  obtain ⟨X, M, h3, h4, h5, h6, h7, h8⟩ := h
  exact ⟨⟨X.1, (e 2 (by omega) (by omega)).trans X.2.1, er.trans X.2.2.1, fun i hi => ⟨(X.2.2.2.1 i hi).1, (e1 i).trans (X.2.2.2.1 i hi).2⟩, fun i hi => (e5 i).trans (X.2.2.2.2 i hi)⟩, M, h3, ⟨(e 3 (by omega) (by omega)).trans h4.1, h4.2⟩, ⟨(e 6 (by omega) (by omega)).trans h5.1, h5.2⟩, ⟨(e 4 (by omega) (by omega)).trans h6.1, h6.2⟩, h7, fun g => ⟨(e 5 (by omega) (by omega)).trans (h8 g).1, (h8 g).2⟩⟩
theorem tk_nx (hN : 1000 < N) (h : tk_R t L p pl q a b sx sm) : ∃ p' pl' q' a' b' sx' sm', f_X9_advance N sx = some sx' ∧ f_X12_token N sm = some sm' ∧ tk_R t L p' pl' q' a' b' sx' sm' ∧ p ≤ pl' ∧ kz 49 FX sx sx' ∧ kz 174 FM sm sm' := tk_adv hN h.1 h.2.1 h.2.2.1.2.1 h.2.2.2.1.1 h.2.2.2.1.2
theorem tk_kx (h : tk_R t L p pl q a b sx sm) (k : Nat) (hk : k < 2147483648) : (hq_gi sx 49 4 = Int32.ofNat k) = (q = k) := by
  have := h.2.2.2.2.2.2.1.1
  rw [h.2.2.2.2.2.1.1, nb_eq (by omega) hk]
theorem tk_km (h : tk_R t L p pl q a b sx sm) (k : Nat) (hk : k ≤ 5) : (hq_gi sm 174 26 = Int32.ofNat (tk_s k)) = (q = k) := by
  have hq := h.2.2.2.2.2.2.1.1
  rw [h.2.2.2.2.2.1.2]
  have : ∀ q, q < 6 → ∀ k, k < 6 → ((Int32.ofNat (tk_s q) = Int32.ofNat (tk_s k)) ↔ (q = k)) := by decide
  exact propext (this q (by omega) k (by omega))
/-- the class's fault, the reference's fault -/
theorem fail_x {f : Int32} {s : hq_S} : f_X6_failed N f s = some (0, hq_si (hq_si s 48 7 f) 48 8 (hq_gi s 49 6)) := by
  unfold f_X6_failed
  rw [nn_pi]
  simp only [Option.bind_some]
  rw [nn_pi]
  simp only [Option.bind_some]
  rw [nn_gk (by omega)]
theorem fail_m {f : Int32} {s : hq_S} (h : hq_gi s 174 28 = 0) : f_X12_wrong N f s = some (hq_si (hq_si s 174 28 f) 174 29 (hq_gi s 174 25)) := by
  unfold f_X12_wrong
  rw [if_pos h, nn_pi]
  simp only [Option.bind_some]
  rw [nn_pi]
  simp only [Option.bind_some]
  rw [nn_gn (by omega)]
theorem fail_b (h : tk_R t L p pl q a b sx sm) {f : Nat} (h1 : 1 ≤ f) (h2 : f ≤ 5) : bad (hq_si (hq_si sx 48 7 (Int32.ofNat f)) 48 8 (hq_gi sx 49 6)) (hq_si (hq_si sm 174 28 (Int32.ofNat f)) 174 29 (hq_gi sm 174 25)) := by
  refine ⟨f, h1, h2, (nn_gn (by omega)).trans nn_g1, (nn_gn (by omega)).trans nn_g1, ?_⟩
  rw [nn_g1, nn_g1, h.2.2.2.2.1.1, h.2.2.2.2.1.2]
theorem fail_n {f : Int32} (h : ¬ f = 0) {s : hq_S} {x : Int32} : ¬ hq_gi (hq_si (hq_si s 174 28 f) 174 29 x) 174 28 = 0 := by
  rw [nn_gn (by omega), nn_g1]
  exact h
theorem bad_n (h : bad sx sm) : ¬ hq_gi sm 174 28 = 0 := by
  obtain ⟨f, h1, h2, -, h4, -⟩ := h
  rw [h4, nb_eq0 (by omega)]
  omega
theorem bad_x (h : bad sx sm) : ¬ hq_gi sx 48 7 = 0 := by
  obtain ⟨f, h1, h2, h3, -⟩ := h
  rw [h3, nb_eq0 (by omega)]
  omega
theorem bad_k {sx' sm' : hq_S} (h : bad sx sm) (x7 : hq_gi sx' 48 7 = hq_gi sx 48 7) (x8 : hq_gi sx' 48 8 = hq_gi sx 48 8) (m8 : hq_gi sm' 174 28 = hq_gi sm 174 28) (m9 : hq_gi sm' 174 29 = hq_gi sm 174 29) : bad sx' sm' := by
  obtain ⟨f, h1, h2, h3, h4, h5⟩ := h
  exact ⟨f, h1, h2, x7.trans h3, m8.trans h4, by rw [x8, m9]; exact h5⟩
/-- behind a fault the reference reads on in vain -/
theorem numeral_f {a b : Int32} {s : hq_S} (h : ¬ hq_gi s 174 28 = 0) : f_X12_numeral N a b s = some (a, s) := by
  unfold f_X12_numeral
  rw [if_neg h]
theorem fresh_f {k : Nat} {a b : Int32} {s : hq_S} (h : ¬ hq_gi s 174 28 = 0) : f_X12_fresh N k a b s = some (0, s) := by
  unfold f_X12_fresh
  rw [if_neg h]
theorem atHand_f {k : Nat} {a b : Int32} {s : hq_S} (h : ¬ hq_gi s 174 28 = 0) : f_X12_atHand N k a b s = some (0, s) := by
  unfold f_X12_atHand
  rw [if_neg h]
theorem fresher_v {j : Nat} {a : Int32} {s : hq_S} (ha : a = Int32.ofNat j) (hj : j < 7) : f_X12_fresher N a s = some (hq_gi s 176 (7 + j), s) := by
  unfold f_X12_fresher
  rw [ha, show (7 : Int32) = Int32.ofNat 7 from rfl, nb_add, nn_ld (by omega) (by omega)]
  rfl
theorem reads_v {j : Nat} {a x : Int32} {s : hq_S} (ha : a = Int32.ofNat j) (hj : j < 7) : f_X12_reads N a x s = some (hq_si s 176 (7 + j) x) := by
  unfold f_X12_reads
  rw [ha, show (7 : Int32) = Int32.ofNat 7 from rfl, nb_add, nn_st (by omega) (by omega)]
  rfl
theorem cornerAtHand_f {s : hq_S} (h : ¬ hq_gi s 174 28 = 0) : f_X12_cornerAtHand N s = some (0, s) := by
  unfold f_X12_cornerAtHand
  rw [fresher_v (a := 0) (j := 0) rfl (by omega)]
  simp only [Option.bind_some]
  rw [atHand_f h]
  rfl
theorem goOn_f {s : hq_S} (h : ¬ hq_gi s 174 28 = 0) : f_X12_goOn N s = some s := by
  unfold f_X12_goOn
  rw [if_neg h]
theorem goOn_v {s s' : hq_S} (h : hq_gi s 174 28 = 0) (e : f_X12_token N s = some s') : f_X12_goOn N s = some s' := by
  unfold f_X12_goOn
  rw [if_pos h, e]
  rfl
theorem cornerAhead_f {s : hq_S} (h : ¬ hq_gi s 174 28 = 0) : f_X12_cornerAhead N s = some (0, s) := by
  unfold f_X12_cornerAhead
  rw [cornerAtHand_f h]
  simp only [Option.bind_some]
  rw [goOn_f h]
  rfl
/-- a name looked up by both -/
theorem rd_find {kx km Lx Lm n off : Nat} {x : Int32} (hx : hq_alI kx = some Lx) (hx' : hq_alA kx = some (Int32.ofNat Lx)) (hm : hq_alI km = some Lm) (h1 : n ≤ Lx) (h2 : off + n ≤ Lm) (hLx : Lx < 1000) (hLm : Lm < 1000) (he : ∀ i, i < n → hq_gi sx kx i = hq_gi sm km (off + i)) :
    ∀ (r j m m' : Nat), j + r = n → r < m → r < m' → ∃ v, f_X10_placeOf_L2 N m x kx (Int32.ofNat n) (Int32.ofNat j) sx = some (v, sx) ∧ f_X12_found_L3 N m' km (Int32.ofNat off) (Int32.ofNat n) x (Int32.ofNat j) sm = some (v, sm) ∧ (v = -1 ∨ ∃ i, i < n ∧ v = Int32.ofNat i) := by
  intro r
  induction r with
  | zero =>
    intro j m m' hj hm1 hm2
    obtain ⟨m, rfl⟩ : ∃ k, m = k + 1 := ⟨m - 1, by omega⟩
    obtain ⟨m', rfl⟩ : ∃ k, m' = k + 1 := ⟨m' - 1, by omega⟩
    have hj : j = n := by omega
    subst hj
    have c : ¬ Int32.ofNat j < Int32.ofNat j := by rw [nn_lt (by omega) (by omega)]; omega
    refine ⟨-1, ?_, ?_, Or.inl rfl⟩
    · show f_X10_placeOf_L2_B N (f_X10_placeOf_L2 N m) x kx (Int32.ofNat j) (Int32.ofNat j) sx = _
      simp only [f_X10_placeOf_L2_B, if_neg c]
    · show f_X12_found_L3_B N (f_X12_found_L3 N m') km (Int32.ofNat off) (Int32.ofNat j) x (Int32.ofNat j) sm = _
      simp only [f_X12_found_L3_B, if_neg c]
  | succ r ih =>
    intro j m m' hj hm1 hm2
    obtain ⟨m, rfl⟩ : ∃ k, m = k + 1 := ⟨m - 1, by omega⟩
    obtain ⟨m', rfl⟩ : ∃ k, m' = k + 1 := ⟨m' - 1, by omega⟩
    have c : Int32.ofNat j < Int32.ofNat n := (nn_lt (by omega) (by omega)).mpr (by omega)
    have c2 : Int32.ofNat j < Int32.ofNat Lx := (nn_lt (by omega) (by omega)).mpr (by omega)
    have eX : f_X10_placeOf_L2 N (m + 1) x kx (Int32.ofNat n) (Int32.ofNat j) sx = if hq_gi sm km (off + j) = x then some (Int32.ofNat j, sx) else f_X10_placeOf_L2 N m x kx (Int32.ofNat n) (Int32.ofNat (j + 1)) sx := by
      show f_X10_placeOf_L2_B N (f_X10_placeOf_L2 N m) x kx (Int32.ofNat n) (Int32.ofNat j) sx = _
      simp only [f_X10_placeOf_L2_B, if_pos c, hx', Option.bind_some, if_pos c2, nn_ldiA hx (show j < Lx by omega) (by omega), he j (by omega), nn_succ]
    have eM : f_X12_found_L3 N (m' + 1) km (Int32.ofNat off) (Int32.ofNat n) x (Int32.ofNat j) sm = if hq_gi sm km (off + j) = x then some (Int32.ofNat j, sm) else f_X12_found_L3 N m' km (Int32.ofNat off) (Int32.ofNat n) x (Int32.ofNat (j + 1)) sm := by
      show f_X12_found_L3_B N (f_X12_found_L3 N m') km (Int32.ofNat off) (Int32.ofNat n) x (Int32.ofNat j) sm = _
      simp only [f_X12_found_L3_B, if_pos c, nb_add, Option.bind_some, nn_ldiA hm (show off + j < Lm by omega) (by omega), nn_succ]
    by_cases q : hq_gi sm km (off + j) = x
    · exact ⟨Int32.ofNat j, by rw [eX, if_pos q], by rw [eM, if_pos q], Or.inr ⟨j, by omega, rfl⟩⟩
    · obtain ⟨v, a1, a2, a3⟩ := ih (j + 1) m m' (by omega) (by omega) (by omega)
      exact ⟨v, by rw [eX, if_neg q]; exact a1, by rw [eM, if_neg q]; exact a2, a3⟩
/-- a new name -/
theorem rd_new (hN : 1000 < N) (R : tk_R t L p pl q a b sx sm) (f0 : hq_gi sm 174 28 = 0) {kx km Lx Lm n off : Nat} (hx : hq_alI kx = some Lx) (hx' : hq_alA kx = some (Int32.ofNat Lx)) (hm : hq_alI km = some Lm) (h1 : n ≤ Lx) (h2 : off + n ≤ Lm) (hLx : Lx < 1000) (hLm : Lm < 1000) (he : ∀ i, i < n → hq_gi sx kx i = hq_gi sm km (off + i)) :
    (∃ z p' pl' q' a' b' sx' sm', z < 1073741824 ∧ f_X6_newName N kx (Int32.ofNat n) sx = some (Int32.ofNat z, sx') ∧ f_X12_fresh N km (Int32.ofNat off) (Int32.ofNat n) sm = some (Int32.ofNat z, sm') ∧ tk_R t L p' pl' q' a' b' sx' sm' ∧ p ≤ pl' ∧ kz 49 FX sx sx' ∧ kz 174 FM sm sm') ∨ ∃ sx' sm', f_X6_newName N kx (Int32.ofNat n) sx = some (-1, sx') ∧ f_X12_fresh N km (Int32.ofNat off) (Int32.ofNat n) sm = some (0, sm') ∧ bad sx' sm' := by
  have e2 := tk_kx R 2 (by omega)
  have m2 := tk_km R 2 (by omega)
  have e2 : (hq_gi sx 49 4 = 2) = (q = 2) := e2
  have m2 : (hq_gi sm 174 26 = 1) = (q = 2) := m2
  unfold f_X6_newName f_X12_fresh
  rw [if_pos f0, ie (e2), ie (m2)]
  by_cases c : q = 2
  · rw [if_pos c, if_pos c]
    obtain ⟨v1, v2⟩ := R.2.2.2.2.2.2.2 (by omega)
    obtain ⟨w1, w2⟩ := R.2.2.2.2.2.2.1.2.1 c
    rw [v1, v2, ← w1]
    obtain ⟨v, g1, g2, g3⟩ := rd_find (N := N) (x := Int32.ofNat a) hx hx' hm h1 h2 hLx hLm he n 0 N N (by omega) (by omega) (by omega)
    unfold f_X10_placeOf f_X12_found
    have g1 : f_X10_placeOf_L2 N N (Int32.ofNat a) kx (Int32.ofNat n) 0 sx = some (v, sx) := g1
    have g2 : f_X12_found_L3 N N km (Int32.ofNat off) (Int32.ofNat n) (Int32.ofNat a) 0 sm = some (v, sm) := g2
    rw [g1, g2]
    simp only [Option.bind_some]
    by_cases d : v = -1
    · rw [if_pos d, if_pos d]
      simp only [Option.bind_some]
      rw [if_pos f0]
      obtain ⟨p', pl', q', a', b', sx', sm', r1, r2, r3, r4, r5, r6⟩ := tk_nx hN R
      rw [r1, r2]
      simp only [Option.bind_some]
      refine Or.inl ⟨a, p', pl', q', a', b', sx', sm', w2, rfl, ?_, r3, r4, r5, r6⟩
      rw [v2, ← w1]
    · rw [if_neg d, if_neg d, fail_x, fail_m f0]
      simp only [Option.bind_some]
      rw [if_neg (fail_n (f := 3) (by decide))]
      exact Or.inr ⟨_, _, rfl, rfl, fail_b R (f := 3) (by omega) (by omega)⟩
  · rw [if_neg c, if_neg c, fail_x, fail_m f0]
    simp only [Option.bind_some]
    rw [if_neg (fail_n (f := 1) (by decide))]
    exact Or.inr ⟨_, _, rfl, rfl, fail_b R (f := 1) (by omega) (by omega)⟩
/-- a number -/
theorem rd_num (hN : 1000 < N) (R : tk_R t L p pl q a b sx sm) (f0 : hq_gi sm 174 28 = 0) {most : Nat} (hmost : most ≤ 99999) :
    (∃ z p' pl' q' a' b' sx' sm', z ≤ most ∧ f_X6_passNumber N (Int32.ofNat most) sx = some (Int32.ofNat z, sx') ∧ f_X12_numeral N 0 (Int32.ofNat most) sm = some (Int32.ofNat z, sm') ∧ tk_R t L p' pl' q' a' b' sx' sm' ∧ p ≤ pl' ∧ kz 49 FX sx sx' ∧ kz 174 FM sm sm') ∨ ∃ sx' sm', f_X6_passNumber N (Int32.ofNat most) sx = some (-1, sx') ∧ f_X12_numeral N 0 (Int32.ofNat most) sm = some (0, sm') ∧ bad sx' sm' := by
  have e2 : (hq_gi sx 49 4 = 4) = (q = 4) := tk_kx R 4 (by omega)
  have m2 : (hq_gi sm 174 26 = 2) = (q = 4) := tk_km R 4 (by omega)
  unfold f_X6_passNumber f_X12_numeral
  rw [if_pos f0, ie (e2), ie (m2)]
  by_cases c : q = 4
  · rw [if_pos c, if_pos c]
    obtain ⟨v1, v2⟩ := R.2.2.2.2.2.2.2 (by omega)
    obtain ⟨w1, w2, w3⟩ := R.2.2.2.2.2.2.1.2.2.2.1 c
    rw [v1, v2, ie (nb_ltp (by omega) (by omega)), if_neg (nn_nlt0 (by omega)), ie (nb_ltp (by omega) (by omega))]
    by_cases d : most < a
    · rw [if_pos d, if_pos (by omega), fail_x, fail_m f0]
      simp only [Option.bind_some]
      rw [if_neg (fail_n (f := 2) (by decide))]
      exact Or.inr ⟨_, _, rfl, rfl, fail_b R (f := 2) (by omega) (by omega)⟩
    · have hab : a = b := by omega
      rw [if_neg d, if_neg (by omega)]
      simp only [Option.bind_some]
      rw [if_pos f0]
      obtain ⟨p', pl', q', a', b', sx', sm', r1, r2, r3, r4, r5, r6⟩ := tk_nx hN R
      rw [r1, r2]
      simp only [Option.bind_some]
      refine Or.inl ⟨a, p', pl', q', a', b', sx', sm', by omega, rfl, ?_, r3, r4, r5, r6⟩
      rw [v2, hab]
  · rw [if_neg c, if_neg c, fail_x, fail_m f0]
    simp only [Option.bind_some]
    rw [if_neg (fail_n (f := 1) (by decide))]
    exact Or.inr ⟨_, _, rfl, rfl, fail_b R (f := 1) (by omega) (by omega)⟩
/-- one told ahead; the token stays -/
theorem rd_told (hN : 1000 < N) (R : tk_R t L p pl q a b sx sm) (f0 : hq_gi sm 174 28 = 0) {kx km Lx Lm n off : Nat} (hx : hq_alI kx = some Lx) (hx' : hq_alA kx = some (Int32.ofNat Lx)) (hm : hq_alI km = some Lm) (h1 : n ≤ Lx) (h2 : off + n ≤ Lm) (hLx : Lx < 1000) (hLm : Lm < 1000) (he : ∀ i, i < n → hq_gi sx kx i = hq_gi sm km (off + i)) :
    (∃ i, i < n ∧ ¬ q = 0 ∧ f_X6_toldOne N kx (Int32.ofNat n) sx = some (Int32.ofNat i, sx) ∧ f_X12_atHand N km (Int32.ofNat off) (Int32.ofNat n) sm = some (Int32.ofNat i, sm)) ∨ ∃ sx' sm', f_X6_toldOne N kx (Int32.ofNat n) sx = some (-1, sx') ∧ f_X12_atHand N km (Int32.ofNat off) (Int32.ofNat n) sm = some (0, sm') ∧ bad sx' sm' := by
  have e2 : (hq_gi sx 49 4 = 2) = (q = 2) := tk_kx R 2 (by omega)
  have m2 : (hq_gi sm 174 26 = 1) = (q = 2) := tk_km R 2 (by omega)
  unfold f_X6_toldOne f_X12_atHand
  rw [if_pos f0, ie (e2), ie (m2)]
  by_cases c : q = 2
  · rw [if_pos c, if_pos c]
    simp only [Option.bind_some]
    rw [if_pos f0]
    obtain ⟨v1, v2⟩ := R.2.2.2.2.2.2.2 (by omega)
    obtain ⟨w1, w2⟩ := R.2.2.2.2.2.2.1.2.1 c
    rw [v1, v2, ← w1]
    obtain ⟨v, g1, g2, g3⟩ := rd_find (N := N) (x := Int32.ofNat a) hx hx' hm h1 h2 hLx hLm he n 0 N N (by omega) (by omega) (by omega)
    unfold f_X10_placeOf f_X12_found
    have g1 : f_X10_placeOf_L2 N N (Int32.ofNat a) kx (Int32.ofNat n) 0 sx = some (v, sx) := g1
    have g2 : f_X12_found_L3 N N km (Int32.ofNat off) (Int32.ofNat n) (Int32.ofNat a) 0 sm = some (v, sm) := g2
    rw [g1, g2]
    simp only [Option.bind_some]
    rw [if_pos f0]
    by_cases d : v = -1
    · rw [if_pos d, if_pos d, fail_x, fail_m f0]
      simp only [Option.bind_some]
      rw [if_neg (fail_n (f := 4) (by decide)), d]
      exact Or.inr ⟨_, _, rfl, rfl, fail_b R (f := 4) (by omega) (by omega)⟩
    · rw [if_neg d, if_neg d]
      simp only [Option.bind_some]
      rw [if_pos f0]
      rcases g3 with h | ⟨i, hi, rfl⟩
      · exact absurd h d
      · exact Or.inl ⟨i, hi, by omega, rfl, rfl⟩
  · rw [if_neg c, if_neg c, fail_x, fail_m f0]
    simp only [Option.bind_some]
    have nf := fail_n (f := 1) (s := sm) (x := hq_gi sm 174 25) (by decide)
    rw [if_neg nf]
    simp only [Option.bind_some]
    rw [if_neg nf]
    simp only [Option.bind_some]
    rw [if_neg nf]
    exact Or.inr ⟨_, _, rfl, rfl, fail_b R (f := 1) (by omega) (by omega)⟩
/-- a corner told ahead, passed -/
theorem rd_corner (hN : 1000 < N) {v nc : Nat} (hv : v = 2 ∨ v = 25) (gv : hq_gr sx 48 1 = v) (R : tk_R t L p pl q a b sx sm) (f0 : hq_gi sm 174 28 = 0) (hnc : nc ≤ 10) (cx : hq_gi sx v 0 = Int32.ofNat nc) (cm : hq_gi sm 176 7 = Int32.ofNat nc) (he : ∀ i, i < nc → hq_gi sx (v + 1) i = hq_gi sm 177 (10 + i)) :
    (∃ i p' pl' q' a' b' sx' sm', i < nc ∧ f_X6_passCorner N sx = some (Int32.ofNat i, sx') ∧ f_X12_cornerAhead N sm = some (Int32.ofNat i, sm') ∧ tk_R t L p' pl' q' a' b' sx' sm' ∧ p ≤ pl' ∧ kz 49 FX sx sx' ∧ kz 174 FM sm sm') ∨ ∃ sx' sm', f_X6_passCorner N sx = some (-1, sx') ∧ f_X12_cornerAhead N sm = some (0, sm') ∧ bad sx' sm' := by
  have hT : hq_isT v := hv
  unfold f_X6_passCorner f_X12_cornerAhead f_X12_cornerAtHand
  rw [gv, if_pos hT, if_pos hT, cx, fresher_v (a := 0) (j := 0) rfl (by omega), cm]
  simp only [Option.bind_some]
  have al : hq_alI (v + 1) = some 10 ∧ hq_alA (v + 1) = some (Int32.ofNat 10) := by rcases hv with rfl | rfl <;> exact ⟨rfl, rfl⟩
  rcases rd_told hN R f0 (kx := v + 1) (km := 177) (Lx := 10) (Lm := 20) (n := nc) (off := 10) al.1 al.2 rfl hnc (by omega) (by omega) (by omega) he with ⟨i, hi, -, g1, g2⟩ | ⟨sx', sm', g1, g2, g3⟩
  · rw [g1, show (10 : Int32) = Int32.ofNat 10 from rfl, g2]
    simp only [Option.bind_some]
    rw [if_neg (nn_nm1 (by omega))]
    obtain ⟨p', pl', q', a', b', sx', sm', r1, r2, r3, r4, r5, r6⟩ := tk_nx hN R
    rw [r1, goOn_v f0 r2]
    exact Or.inl ⟨i, p', pl', q', a', b', sx', sm', hi, rfl, rfl, r3, r4, r5, r6⟩
  · rw [g1, show (10 : Int32) = Int32.ofNat 10 from rfl, g2]
    simp only [Option.bind_some]
    rw [if_pos trivial, goOn_f (bad_n g3)]
    exact Or.inr ⟨sx', sm', rfl, rfl, g3⟩
/-- a corner told ahead; the token stays -/
theorem rd_corner0 (hN : 1000 < N) {v nc : Nat} (hv : v = 2 ∨ v = 25) (R : tk_R t L p pl q a b sx sm) (f0 : hq_gi sm 174 28 = 0) (hnc : nc ≤ 10) (cm : hq_gi sm 176 7 = Int32.ofNat nc) (he : ∀ i, i < nc → hq_gi sx (v + 1) i = hq_gi sm 177 (10 + i)) :
    (∃ i, i < nc ∧ f_X6_toldOne N (v + 1) (Int32.ofNat nc) sx = some (Int32.ofNat i, sx) ∧ f_X12_cornerAtHand N sm = some (Int32.ofNat i, sm)) ∨ ∃ sx' sm', f_X6_toldOne N (v + 1) (Int32.ofNat nc) sx = some (-1, sx') ∧ f_X12_cornerAtHand N sm = some (0, sm') ∧ bad sx' sm' := by
  unfold f_X12_cornerAtHand
  rw [fresher_v (a := 0) (j := 0) rfl (by omega), cm]
  simp only [Option.bind_some]
  have al : hq_alI (v + 1) = some 10 ∧ hq_alA (v + 1) = some (Int32.ofNat 10) := by rcases hv with rfl | rfl <;> exact ⟨rfl, rfl⟩
  rcases rd_told hN R f0 (kx := v + 1) (km := 177) (Lx := 10) (Lm := 20) (n := nc) (off := 10) al.1 al.2 rfl hnc (by omega) (by omega) (by omega) he with ⟨i, hi, -, g1, g2⟩ | ⟨sx', sm', g1, g2, g3⟩
  · rw [g1, show (10 : Int32) = Int32.ofNat 10 from rfl, g2]
    exact Or.inl ⟨i, hi, rfl, rfl⟩
  · rw [g1, show (10 : Int32) = Int32.ofNat 10 from rfl, g2]
    exact Or.inr ⟨sx', sm', rfl, rfl, g3⟩
end
