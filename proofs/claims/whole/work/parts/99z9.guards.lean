/-! COULD, UNSEEN: the class walks the guards alone -/
section
variable {N nc nl ng nt t u k l bar : Nat} {nx : Nat → Nat} {fa : Nat → Nat → Nat} {fr to on : Nat → Nat} {both : Bool} {bn : Int32} {o sx sx' sm sm' : hq_S}
theorem hh_nearG (hN : 10 < N) (hl : l < 23) (S : hh_S nc nl ng nt t u k nx fa sx sm) (wg : ∀ i, i < ng → hr_lt nc (hq_gi sx (k + 2) i) (hq_gi sm 200 (3 * l + i))) {c : Nat} (hc : c < nc) : ∃ v : Nat, v ≤ 99 ∧ f_X3_nearest N (Int32.ofNat c) sx = some (Int32.ofNat v, sx) ∧ f_X12_farOf N (Int32.ofNat l) (Int32.ofNat c) sm = some (Int32.ofNat v, sm) := by
  obtain ⟨T, ⟨dt, du, dk⟩, ⟨r0, r1, r2⟩, ⟨-, F⟩, -, -, fx, fm⟩ := S
  obtain ⟨⟨hnc, -, hng, -⟩, ⟨-, -, -, -, g1, g2, -⟩, -⟩ := T
  have iT : hq_isT t := dt
  have iS : hq_isS u := du
  have iN : hq_isN k := by rcases dk with rfl | rfl <;> decide
  have l2 : hq_ld sm 176 14 2 = some (Int32.ofNat ng) := by rw [nb_lit 2, nn_ld (by omega) (by omega), g2]
  have key : ∀ (r j m m' v : Nat), j + r = ng → r < m → r < m' → v ≤ 99 → ∃ w : Nat, w ≤ 99 ∧ f_X3_nearest_L5 N m (Int32.ofNat c) (Int32.ofNat v) (Int32.ofNat j) sx = some (Int32.ofNat w, sx) ∧ f_X12_farOf_L6 N m' (Int32.ofNat l) (Int32.ofNat c) (Int32.ofNat v) (Int32.ofNat j) sm = some (Int32.ofNat w, sm) := by
    intro r
    induction r with
    | zero =>
      intro j m m' v hj hm hm' hv
      obtain ⟨m, rfl⟩ : ∃ k, m = k + 1 := ⟨m - 1, by omega⟩
      obtain ⟨m', rfl⟩ : ∃ k, m' = k + 1 := ⟨m' - 1, by omega⟩
      have cc : ¬ Int32.ofNat j < Int32.ofNat ng := by rw [nn_lt (by omega) (by omega)]; omega
      refine ⟨v, hv, ?_, ?_⟩
      · simp only [f_X3_nearest_L5_s, f_X3_nearest_L5_B, r0, if_pos iT, g1, if_neg cc]
      · simp only [f_X12_farOf_L6_s, f_X12_farOf_L6_B, l2, Option.bind_some, if_neg cc]
    | succ r ih =>
      intro j m m' v hj hm hm' hv
      obtain ⟨m, rfl⟩ : ∃ k, m = k + 1 := ⟨m - 1, by omega⟩
      obtain ⟨m', rfl⟩ : ∃ k, m' = k + 1 := ⟨m' - 1, by omega⟩
      have cc : Int32.ofNat j < Int32.ofNat ng := (nn_lt (by omega) (by omega)).mpr (by omega)
      obtain ⟨a, ha, a1, a2⟩ := wg j (by omega)
      have hF := F a c
      have x1 : hq_ld sx (k + 2) 3 (Int32.ofNat j) = some (Int32.ofNat a) := by rw [nn_ld (by omega) (by omega), a1]
      have x2 : hq_ld sx (u + 2) 100 (Int32.ofNat (10 * a + c)) = some (Int32.ofNat (fa a c)) := by rw [nn_ld (by omega) (by omega), fx a c ha hc]
      have m1 : hq_ld sm 200 69 (Int32.ofNat (3 * l + j)) = some (Int32.ofNat a) := by rw [nn_ld (by omega) (by omega), a2]
      have m2 : hq_ld sm 207 100 (Int32.ofNat (10 * a + c)) = some (Int32.ofNat (fa a c)) := by rw [nn_ld (by omega) (by omega), fm a c ha hc]
      obtain ⟨w, w1, w2, w3⟩ := ih (j + 1) m m' (min v (fa a c)) (by omega) (by omega) (by omega) (by omega)
      refine ⟨w, w1, ?_, ?_⟩
      · simp only [f_X3_nearest_L5_s, f_X3_nearest_L5_B, f_X8_lanesBetween, r0, r1, r2, if_pos iT, if_pos iS, if_pos iN, g1, if_pos cc, x1, x2, nb_10m, nb_add, Option.bind_some, nb_min (show v < 2147483648 by omega) (show fa a c < 2147483648 by omega), nn_succ]
        exact w2
      · simp only [f_X12_farOf_L6_s, f_X12_farOf_L6_B, l2, Option.bind_some, if_pos cc, nb_m3, nb_m10, nb_add, m1, m2, nb_min (show v < 2147483648 by omega) (show fa a c < 2147483648 by omega), nn_succ]
        exact w3
  exact key ng 0 N N 99 (by omega) (by omega) (by omega) (by omega)
/-- guards of both -/
def hv_g (nc ng k l : Nat) (sx sm : hq_S) : Prop := ∀ i, i < ng → hr_lt nc (hq_gi sx (k + 2) i) (hq_gi sm 200 (3 * l + i)) ∧ (∃ a : Nat, a < 8 ∧ (a = 0 ∨ ∃ b : Nat, hq_gi sm 185 i = Int32.ofNat b ∧ a < b ∧ b ≤ 8) ∧ hq_gi sx (k + 3) i = Int32.ofNat a ∧ hq_gi sm 201 (3 * l + i) = Int32.ofNat a)
def hv_s (sx sm : hq_S) : Prop := (hq_gi sx 113 4 = -1 ∧ ¬ hq_gi sm 174 49 = 2) ∨ (hq_gi sm 174 49 = 2 ∧ hq_gi sx 113 4 = hq_gi sm 174 50)
def hv_Q (nc nl ng nt t u k l : Nat) (nx : Nat → Nat) (fa : Nat → Nat → Nat) (bn : Int32) (o sx sm : hq_S) : Prop := (∃ vx, hh_C nc nl ng nt t u k l nx fa bn o vx sm) ∧ hh_S nc nl ng nt t u k nx fa sx sm ∧ hv_g nc ng k l sx sm ∧ hv_s sx sm
theorem hv_QQ : hw_Q nc nl ng nt t u k l nx fa (hv_Q nc nl ng nt t u k l nx fa bn o) := by
  refine ⟨fun sx sm q => q.2, fun sx sm g b q hg hb => ?_, fun sx sm g a b q hg ha hb hab => ?_⟩
  · obtain ⟨⟨vx, C⟩, S, G, s⟩ := q
    have d := S.2.1
    refine ⟨⟨_, hw_Q_C.2.1 _ _ g b C hg hb⟩, hh_S_f (fun c i h => nn_gk (by omega)) (fun _ _ => rfl) (fun _ => rfl) (fun c i h => nn_gk (by omega)) S, fun i hi => ?_, ?_⟩
    · obtain ⟨G1, G2⟩ := G i hi
      refine ⟨?_, ?_⟩
      · rw [nb_ii, nb_ii]
        by_cases q : i = g
        · rw [if_pos ⟨rfl, q⟩, if_pos ⟨rfl, by omega⟩]; exact ⟨b, hb, rfl, rfl⟩
        · rw [if_neg (fun z => q z.2), if_neg (fun z => q (by omega))]; exact G1
      · rw [nn_gk (by omega), nn_gk (by omega), nn_gk (by omega)]; exact G2
    · unfold hv_s at s ⊢
      rw [nn_gk (by omega), nn_gk (by omega), nn_gk (by omega)]; exact s
  · obtain ⟨⟨vx, C⟩, S, G, s⟩ := q
    have d := S.2.1
    refine ⟨⟨_, hw_Q_C.2.2 _ _ g a b C hg ha hb hab⟩, hh_S_f (fun c i h => nn_gk (by omega)) (fun _ _ => rfl) (fun _ => rfl) (fun c i h => nn_gk (by omega)) S, fun i hi => ?_, ?_⟩
    · obtain ⟨G1, G2⟩ := G i hi
      refine ⟨?_, ?_⟩
      · rw [nn_gk (by omega), nn_gk (by omega)]; exact G1
      · rw [nn_gk (k' := 185) (by omega), nb_ii, nb_ii]
        by_cases q : i = g
        · rw [if_pos ⟨rfl, q⟩, if_pos ⟨rfl, by omega⟩]
          subst q
          exact ⟨a, ha, Or.inr ⟨b, hb, hab⟩, rfl, rfl⟩
        · rw [if_neg (fun z => q z.2), if_neg (fun z => q (by omega))]; exact G2
    · unfold hv_s at s ⊢
      rw [nn_gk (by omega), nn_gk (by omega), nn_gk (by omega)]; exact s
/-! the reference's hour behind the beats leaves the guards -/
def hv_k (s y : hq_S) : Prop := ∀ c i, (c = 200 ∨ c = 201) → hq_gi y c i = hq_gi s c i
theorem hv_k_tr {s y z : hq_S} (h : hv_k s y) (h' : hv_k y z) : hv_k s z := fun c i hc => (h' c i hc).trans (h c i hc)
theorem hv_k_fc {W : List (Nat × Option Nat)} {s y : hq_S} (hd : hq_dis W [(200, none), (201, none)] = true) (h : hq_fc W s y) : hv_k s y := fun c i hc => by
  rcases hc with rfl | rfl
  · exact ((h.kp hd) 200 i rfl).1
  · exact ((h.kp hd) 201 i rfl).1
theorem hv_174 {a1 a2 : Int32} : ∀ (m : Nat) (a3 : Int32) (s y : hq_S), f_X12_passes_L174 N m a1 a2 a3 s = some y → hv_k s y := by
  intro m
  induction m with
  | zero => intro a3 s y h; cases h
  | succ m ih =>
    intro a3 s y h
    rw [f_X12_passes_L174_s] at h
    unfold f_X12_passes_L174_B at h
    obtain ⟨x8, -, h⟩ := Option.bind_eq_some_iff.mp h
    by_cases c : a3 < x8
    · rw [if_pos c] at h
      obtain ⟨y12, h12, h⟩ := Option.bind_eq_some_iff.mp h
      obtain ⟨z13, h13, h⟩ := Option.bind_eq_some_iff.mp h
      have k1 := hv_k_fc (by decide) (f_X12_isFree_fw h12)
      have k3 := ih _ _ _ h
      refine hv_k_tr k1 (hv_k_tr ?_ k3)
      by_cases c2 : y12.1 = 0
      · rw [if_pos c2] at h13
        cases h13
        exact fun _ _ _ => rfl
      · rw [if_neg c2] at h13
        obtain ⟨s15, h15, h13⟩ := Option.bind_eq_some_iff.mp h13
        cases h13
        exact hv_k_fc (by decide) (f_X12_takes_fw h15)
    · rw [if_neg c] at h
      obtain ⟨x10, -, h⟩ := Option.bind_eq_some_iff.mp h
      obtain ⟨s11, h11, h⟩ := Option.bind_eq_some_iff.mp h
      cases h
      unfold hq_st at h11
      cases hb : mm_in a1 23 with
      | false => rw [hb] at h11; cases h11
      | true =>
        rw [hb] at h11
        cases h11
        intro c i hc
        exact nn_gk (by omega)
theorem hv_st {s y : hq_S} {c L : Nat} {i x : Int32} (hc : ¬ c = 200) (hc2 : ¬ c = 201) (h : hq_st s c L i x = some y) : hv_k s y := by
  unfold hq_st at h
  cases hb : mm_in i L with
  | false => rw [hb] at h; cases h
  | true =>
    rw [hb] at h
    cases h
    intro c' i' hc'
    exact nn_gk (by omega)
theorem hv_77 {a1 a2 : Int32} {q64 : Int32 → Int32 → Int32 → hq_S → Option hq_S} (hq : ∀ a b c s y, q64 a b c s = some y → hv_k s y) : ∀ (m : Nat) (a3 a4 : Int32) (s y : hq_S), f_X12_passes_L77 N q64 m a1 a2 a3 a4 s = some y → hv_k s y := by
  intro m
  induction m with
  | zero => intro a3 a4 s y h; cases h
  | succ m ih =>
    intro a3 a4 s y h
    rw [f_X12_passes_L77_s] at h
    unfold f_X12_passes_L77_B at h
    obtain ⟨x16, -, h⟩ := Option.bind_eq_some_iff.mp h
    by_cases c : a4 < x16
    · rw [if_pos c] at h
      obtain ⟨y18, h18, h⟩ := Option.bind_eq_some_iff.mp h
      obtain ⟨z19, h19, h⟩ := Option.bind_eq_some_iff.mp h
      have k1 := hv_k_fc (by decide) (f_X12_isFree_fw h18)
      refine hv_k_tr k1 (hv_k_tr ?_ (ih _ _ _ _ h))
      by_cases c2 : y18.1 = 0
      · rw [if_pos c2] at h19
        cases h19
        exact fun _ _ _ => rfl
      · rw [if_neg c2] at h19
        obtain ⟨x21, -, h19⟩ := Option.bind_eq_some_iff.mp h19
        obtain ⟨x22, -, h19⟩ := Option.bind_eq_some_iff.mp h19
        by_cases c3 : x21 = x22
        · rw [if_pos c3] at h19
          obtain ⟨y24, h24, h19⟩ := Option.bind_eq_some_iff.mp h19
          have k2 := hv_k_fc (by decide) (f_X12_doesGrip_fw h24)
          refine hv_k_tr k2 ?_
          by_cases c4 : y24.1 = 0
          · rw [if_pos c4] at h19
            cases h19
            exact fun _ _ _ => rfl
          · rw [if_neg c4] at h19
            obtain ⟨s26, h26, h19⟩ := Option.bind_eq_some_iff.mp h19
            obtain ⟨x27, -, h19⟩ := Option.bind_eq_some_iff.mp h19
            obtain ⟨s28, h28, h19⟩ := Option.bind_eq_some_iff.mp h19
            cases h19
            exact hv_k_tr (hv_st (by omega) (by omega) h26) (hv_st (by omega) (by omega) h28)
        · rw [if_neg c3] at h19
          cases h19
          exact fun _ _ _ => rfl
    · rw [if_neg c] at h
      exact hq _ _ _ _ _ h
theorem hv_64 : ∀ (m : Nat) (a1 a2 a3 : Int32) (s y : hq_S), f_X12_passes_L64 N m a1 a2 a3 s = some y → hv_k s y := by
  intro m
  induction m with
  | zero => intro a1 a2 a3 s y h; cases h
  | succ m ih =>
    intro a1 a2 a3 s y h
    rw [f_X12_passes_L64_s] at h
    unfold f_X12_passes_L64_B at h
    obtain ⟨x6, -, h⟩ := Option.bind_eq_some_iff.mp h
    by_cases c : a3 < x6
    · rw [if_pos c] at h
      exact hv_77 ih N _ _ _ _ h
    · rw [if_neg c] at h
      exact hv_174 N _ _ _ h
theorem hv_31 {a1 a2 : Int32} : ∀ (m : Nat) (a3 : Int32) (s y : hq_S), f_X12_passes_L31 N m a1 a2 a3 s = some y → hv_k s y := by
  intro m
  induction m with
  | zero => intro a3 s y h; cases h
  | succ m ih =>
    intro a3 s y h
    rw [f_X12_passes_L31_s] at h
    unfold f_X12_passes_L31_B at h
    obtain ⟨x4, -, h⟩ := Option.bind_eq_some_iff.mp h
    by_cases c : a3 < x4
    · rw [if_pos c] at h
      obtain ⟨y29, h29, h⟩ := Option.bind_eq_some_iff.mp h
      obtain ⟨z30, h30, h⟩ := Option.bind_eq_some_iff.mp h
      have k1 := hv_k_fc (by decide) (f_X12_isFree_fw h29)
      refine hv_k_tr k1 (hv_k_tr ?_ (ih _ _ _ h))
      by_cases c2 : y29.1 = 0
      · rw [if_pos c2] at h30
        cases h30
        exact fun _ _ _ => rfl
      · rw [if_neg c2] at h30
        obtain ⟨s32, h32, h30⟩ := Option.bind_eq_some_iff.mp h30
        cases h30
        exact hv_k_fc (by decide) (f_X12_stirs_fw h32)
    · rw [if_neg c] at h
      exact hv_64 N _ _ _ _ _ h
/-- the guards walk on: the class's beats, the reference's hour -/
def hv_P (nc nl ng nt t u k l : Nat) (fr to on : Nat → Nat) (bar : Nat) (both : Bool) (bn : Int32) (o sx sm : hq_S) : Prop := (∃ vx, hh_P nc nl ng nt t u k l fr to on bar both bn o vx sm) ∧ hr_told nc nl ng nt t sx sm ∧ (hq_gr sx 113 0 = t ∧ hq_gr sx 113 1 = u ∧ hq_gr sx 113 2 = k) ∧ hl_S u nc (ly_nx fr to on bar both nl) sx ∧ (∀ a b, a < nc → b < nc → hq_gi sx (u + 2) (10 * a + b) = Int32.ofNat (bf_far (ly_nx fr to on bar both nl) nc a b)) ∧ hv_g nc ng k l sx sm ∧ hv_s sx sm
theorem hv_walk (hN : 300 < N) (hl : l < 23) (P : hv_P nc nl ng nt t u k l fr to on bar both bn o sx sm) : ∃ sx' sm', f_X3_walkBeats N sx = some sx' ∧ f_X12_passes N (Int32.ofNat l) bn sm = some sm' ∧ hv_P nc nl ng nt t u k l fr to on bar both bn o sx' sm' ∧ hh_S nc nl ng nt t u k (ly_nx fr to on bar both nl) (bf_far (ly_nx fr to on bar both nl) nc) sx' sm' := by
  obtain ⟨⟨vx, V⟩, Te, r3, X, F, G, s⟩ := P
  obtain ⟨sm1, l1, C⟩ := hh_lay (N := N) (by omega) hl V
  have fl := f_X12_lays_fw l1
  have hng := Te.1.2.2.1
  have hnt := Te.1.2.2.2
  have t2 := C.1.2.1.1
  have S1 : hh_S nc nl ng nt t u k (ly_nx fr to on bar both nl) (bf_far (ly_nx fr to on bar both nl) nc) sx sm1 := by
    refine ⟨hr_told_f t2 (fun _ _ _ => rfl) (fun _ _ _ => rfl) (fun c i h1 h2 => ?_) Te, C.1.2.1, r3, C.1.2.2.2.1, X, C.1.2.2.2.2.2.1, F, C.1.2.2.2.2.2.2.2⟩
    exact (fl c i (by
      unfold hq_nw w_X12_lays
      simp only [List.all_cons, List.all_nil, Bool.and_true, Bool.not_eq_true', Bool.and_eq_true]
      refine ⟨?_, ?_⟩ <;> (cases q : Nat.beq _ c with
        | false => rfl
        | true => have := Nat.eq_of_beq_eq_true q; omega))).1
  have G1 : hv_g nc ng k l sx sm1 := fun i hi => by
    rw [(fl 200 _ rfl).1, (fl 201 _ rfl).1, (fl 185 _ rfl).1]; exact G i hi
  have s1 : hv_s sx sm1 := by
    unfold hv_s at s ⊢
    rw [(fl 174 49 rfl).1, (fl 174 50 rfl).1]; exact s
  obtain ⟨sx2, sm2, w1, w2, ⟨vx2, C2⟩, S2, G2, s2⟩ := hh_walks (N := N) (bn := bn) (by omega) hl (fun a _ => bf_far_self) (hv_QQ (bn := bn) (o := o)) ng 0 N N sx sm1 ⟨⟨vx, C⟩, S1, G1, s1⟩ (by omega) (by omega) (by omega)
  obtain ⟨vx3, sm3, q1, q2, C3⟩ := hh_stir_all (N := N) (by omega) hl nt 0 N N vx2 sm2 C2 (by omega) (by omega) (by omega)
  have w1 : f_X3_walkBeats N sx = some sx2 := w1
  have q2' : f_X12_passes_L31 N N (Int32.ofNat l) bn 0 sm2 = some sm3 := q2
  have p2 : f_X12_passes N (Int32.ofNat l) bn sm = some sm3 := by
    unfold f_X12_passes
    rw [l1, Option.bind_some, nb_0, w2]
    exact q2'
  have fp := f_X12_passes_fw p2
  have f3 := f_X12_passes_L31_fw q2'
  have kk := hv_31 N _ _ _ q2'
  have em : ∀ c i, 176 ≤ c → c ≤ 193 → hq_gi sm3 c i = hq_gi sm2 c i := fun c i h1 h2 => by
    rcases (show c = 176 ∨ c = 177 ∨ c = 178 ∨ c = 179 ∨ c = 180 ∨ c = 181 ∨ c = 182 ∨ c = 183 ∨ c = 184 ∨ c = 185 ∨ c = 186 ∨ c = 187 ∨ c = 188 ∨ c = 189 ∨ c = 190 ∨ c = 191 ∨ c = 192 ∨ c = 193 by omega) with rfl | rfl | rfl | rfl | rfl | rfl | rfl | rfl | rfl | rfl | rfl | rfl | rfl | rfl | rfl | rfl | rfl | rfl
    all_goals exact (f3 _ i rfl).1
  have T3 : hr_told nc nl ng nt t sx2 sm3 := hr_told_f t2 (fun _ _ _ => rfl) (fun _ _ _ => rfl) em S2.1
  refine ⟨sx2, sm3, w1, p2, ⟨⟨vx3, C3.1.1, C3.1.2.1, C3.1.2.2.1, C3.1.2.2.2.2.1, C3.1.2.2.2.2.2.2.1, ⟨?_, ?_, V.2.2.2.2.2.1.2.2.1, ?_⟩, C3.2.1, C3.2.2.1, C3.2.2.2⟩, T3, S2.2.2.1, S2.2.2.2.2.1, S2.2.2.2.2.2.2.1, fun i hi => ?_, ?_⟩, ⟨T3, S2.2.1, S2.2.2.1, S2.2.2.2.1, S2.2.2.2.2.1, C3.1.2.2.2.2.2.1, S2.2.2.2.2.2.2.1, C3.1.2.2.2.2.2.2.2⟩⟩
  · have e0 : ∀ i, hq_gi sm3 176 i = hq_gi sm 176 i := fun i => (fp 176 i rfl).1
    have e1 : ∀ i, hq_gi sm3 180 i = hq_gi sm 180 i := fun i => (fp 180 i rfl).1
    have e2 : ∀ i, hq_gi sm3 181 i = hq_gi sm 181 i := fun i => (fp 181 i rfl).1
    have e3 : ∀ i, hq_gi sm3 182 i = hq_gi sm 182 i := fun i => (fp 182 i rfl).1
    have hM := V.2.2.2.2.2.1.1
    unfold hl_M at hM ⊢
    simp only [e0, e1, e2, e3]
    exact hM
  · rw [(fp 198 l rfl).1]; exact V.2.2.2.2.2.1.2.1
  · rw [(fp 174 49 rfl).1]; exact V.2.2.2.2.2.1.2.2.2
  · rw [kk 200 _ (Or.inl rfl), kk 201 _ (Or.inr rfl), em 185 _ (by omega) (by omega)]; exact G2 i hi
  · unfold hv_s at s2 ⊢
    rw [(f3 174 49 rfl).1, (f3 174 50 rfl).1]; exact s2
end
