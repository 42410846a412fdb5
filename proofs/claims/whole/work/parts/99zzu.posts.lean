/-! TAKERS AND THEIR POSTS: the class's -/
/-- what is held of the chase but for the posts -/
def hCw (n : Nat) (tn : Nat → Nat) (s : hq_S) : Prop := n ≤ 10 ∧ hq_gi s 152 0 = Int32.ofNat n ∧ (∀ c, c < 10 → hq_gi s 153 c = Int32.ofNat (tn c) ∧ tn c < 2147483648) ∧ (∀ c, 10 ≤ c → tn c = 0) ∧ (hq_gi s 152 2 = 0 ∨ ∃ g K, cB n g tn ∧ K < 20000 ∧ cS n g tn K s ∧ cF n g tn K)
section
variable {N nc : Nat} {nx : Nat → Nat}
theorem hCw_w {n i : Nat} {tn : Nat → Nat} {x : Int32} {s : hq_S} (hi : i = 9 ∨ i = 10 ∨ i = 11) (h : hCw n tn s) : hCw n tn (hq_si s 152 i x) := by
  obtain ⟨h1, h2, h3, h4, h5⟩ := h
  refine ⟨h1, by rw [nb_ii, if_neg (fun z => by omega)]; exact h2, fun c hc => by rw [nb_ii, if_neg (fun z => by omega)]; exact h3 c hc, h4, ?_⟩
  rw [nb_ii, if_neg (fun z => by omega)]
  rcases h5 with h5 | ⟨g, K, a1, a2, ⟨F, b2, b3, b4⟩, a4⟩
  · exact Or.inl h5
  · refine Or.inr ⟨g, K, a1, a2, ⟨⟨?_, ?_, ?_, fun c hc => ?_⟩, cb_cg (fun _ _ => by rw [nb_ii, if_neg (fun z => by omega)]) (fun _ _ _ _ => Iff.rfl) b2, cb_cg (fun _ _ => by rw [nb_ii, if_neg (fun z => by omega)]) (fun _ _ _ _ => Iff.rfl) b3, fun r c hr hc => by rw [nb_ii, if_neg (fun z => by omega)]; exact b4 r c hr hc⟩, a4⟩
    · rw [nb_ii, if_neg (fun z => by omega)]; exact F.1
    · rw [nb_ii, if_neg (fun z => by omega)]; exact F.2.1
    · rw [nb_ii, if_neg (fun z => by omega)]; exact F.2.2.1
    · rw [nb_ii, if_neg (fun z => by omega)]; exact F.2.2.2 c hc
/-- fitted already -/
theorem ft_fit {s : hq_S} (hN : 100 < N) (hnc : nc ≤ 10) (h0 : hq_gi s 152 0 = Int32.ofNat nc) (ht : ∀ c, c < 10 → hq_gi s 153 c = Int32.ofNat (tnx nx c)) (L : hl_S 103 nc nx s) : ∃ s', f_X0_fitTo N 103 s = some s' ∧ ∀ c i, (c = 153 → i < 10) → hq_gi s' c i = hq_gi s c i := by
  obtain ⟨s', e1, e2, e3, e4, e5⟩ := ft_19 (N := N) (nc := nc) (nx := nx) (s0 := s) hnc 10 0 N 1 s (by omega) (by omega) L (fun _ _ _ => rfl) (fun c _ => by rw [if_neg (by omega)]) (Or.inr rfl) ⟨fun _ => ⟨h0, fun c hc => by omega⟩, fun _ => rfl⟩
  have e1 : f_X0_fitTo_L19 N N 103 1 0 s = some s' := e1
  refine ⟨s', ?_, fun c i h => ?_⟩
  · unfold f_X0_fitTo
    rw [if_pos (by rw [h0, L.1]), Option.bind_some, e1]
  · rcases e4 with ⟨-, f3⟩ | ⟨f, -⟩
    · by_cases z : c = 152
      · rw [z]; exact f3 i
      · by_cases z2 : c = 153
        · rw [z2, e3 i (h z2), ht i (h z2)]
        · exact e5 c i z z2
    · exact absurd ⟨h0, ht⟩ f
theorem so_fit {s : hq_S} {m : Nat} (hN : 10300 < N) (h1 : 1 ≤ nc) (hx : ∀ c, nx c < 2 ^ nc) (m1 : 1 ≤ m) (m3 : m ≤ 3) (H : hCw nc (tnx nx) s) (L : hl_S 103 nc nx s) : ∃ K s', K < 20000 ∧ f_X0_solve N 103 (Int32.ofNat m) s = some s' ∧ cS nc m (tnx nx) K s' ∧ cF nc m (tnx nx) K ∧ hCw nc (tnx nx) s' ∧ (∀ i, i = 9 ∨ i = 10 ∨ i = 11 → hq_gi s' 152 i = hq_gi s 152 i) ∧ ∀ c i, ¬ (152 ≤ c ∧ c ≤ 158) → hq_gi s' c i = hq_gi s c i := by
  obtain ⟨hnc, h2, h3, h4, h5⟩ := H
  have B := tnx_B h1 hnc hx m1 m3
  have hM := cB_M B
  obtain ⟨s1, e1, e2⟩ := ft_fit (N := N) (by omega) hnc h2 (fun c hc => (h3 c hc).1) L
  have k0 : hq_gi s1 152 0 = Int32.ofNat nc := by rw [e2 _ _ (by omega)]; exact h2
  by_cases q1 : hq_gi s1 152 2 = Int32.ofNat m
  · rcases h5 with h5 | ⟨g, K, b1, b2, b3, b4⟩
    · rw [e2 _ _ (by omega), h5] at q1
      have := (nn_inj (a := 0) (by omega) (by omega)).mp q1
      omega
    · have eg : g = m := by
        have h := b3.1.2.1
        rw [e2 _ _ (by omega), h] at q1
        exact (nn_inj (by have := b1.2.2.2.1; omega) (by omega)).mp q1
      subst eg
      have S1 := cS_k (s' := s1) (fun c i _ _ h => e2 c i h) b3
      exact ⟨K, s1, b2, by simp only [f_X0_solve, e1, Option.bind_some, if_pos q1], S1, b4, ⟨hnc, k0, fun c hc => by rw [e2 _ _ (by omega)]; exact h3 c hc, h4, Or.inr ⟨g, K, b1, b2, S1, b4⟩⟩, fun i _ => e2 _ _ (by omega), fun c i h => e2 c i (by omega)⟩
  · have q2 : ¬ Int32.ofNat nc < (1 : Int32) := by rw [nb_lit 1, nn_lt (by omega) (by omega)]; omega
    obtain ⟨s2, f1, f2, f3, f4⟩ := lo_all (N := N) (n := nc) (g := m) (tn := tnx nx) (s := hq_si s1 152 2 (Int32.ofNat m)) h1 hnc hN m3 (by rw [nb_ii, if_neg (fun z => by omega)]; exact k0) (by rw [nb_ii, if_pos ⟨rfl, rfl⟩]) (fun c hc => by rw [nb_ii, if_neg (fun z => by omega), e2 _ _ (by omega)]; exact (h3 c hc).1)
    obtain ⟨K, s3, g0, g1, g2, g3, g4⟩ := so_36 (N := N) (a2 := Int32.ofNat m) (k1 := 103) hN B 10001 0 N s2 (by omega) (by omega) f2 (by
      have h := cn_d (P := fun _ => False) (Q := fun i => cL nc m (tnx nx) 0 (dgs nc m (i / nc)) (i % nc)) (m := nc ^ m * nc) (fun i _ h => h.elim) ⟨0 * nc + dgs nc m 0 0, cx_il (by omega) (dgs_lt (by omega) m 0 0 (by omega)), fun h => h, by
        have dl := dgs_lt (n := nc) (by omega) m 0 0 (by omega)
        rw [Nat.zero_mul, Nat.zero_add, Nat.div_eq_of_lt dl, Nat.mod_eq_of_lt dl]
        exact ⟨0, by omega, rfl⟩⟩
      omega)
    have g1 : f_X0_solve_L36 N N 103 (Int32.ofNat m) 1 1 s2 = some s3 := g1
    have k152 : ∀ i, ¬ i = 2 → ¬ i = 3 → hq_gi s3 152 i = hq_gi s 152 i := fun i h2 h3 => by rw [g4 _ _ (by omega) (by omega) (by omega) (by omega), f3 i h3, nb_ii, if_neg (fun z => h2 z.2), e2 _ _ (by omega)]
    refine ⟨K, s3, g0, by simp only [f_X0_solve, e1, Option.bind_some, if_neg q1, k0, if_neg q2, nn_pi, f1, g1], g2, g3, ⟨hnc, g2.1.1, fun c hc => ⟨g2.1.2.2.2 c hc, (h3 c hc).2⟩, h4, Or.inr ⟨m, K, B, g0, g2, g3⟩⟩, fun i hi => k152 i (by omega) (by omega), fun c i h => ?_⟩
    rw [g4 _ _ (by omega) (by omega) (by omega) (by omega), f4 _ _ (by omega) (by omega) (by omega) (by omega), nb_ii, if_neg (fun z => by omega), e2 _ _ (by omega)]
/-- the first row of posts -/
theorem fp_2 {n g K : Nat} {tn : Nat → Nat} {s : hq_S} (B : cB n g tn) (S : cS n g tn K s) (Fx : cF n g tn K) : ∀ (q r m : Nat), r + q = n ^ g → q < m → (∀ r', r' < r → ¬ cPG n g tn r') → ∃ v, f_X0_firstPostRow_L2 N m (Int32.ofNat r) s = some (v, s) ∧ ((∃ r, v = Int32.ofNat r ∧ cPG n g tn r ∧ ∀ r', r' < r → ¬ cPG n g tn r') ∨ (v = -1 ∧ ∀ r', ¬ cPG n g tn r')) := by
  have hM := cB_M B
  have n10 := B.2.1
  have p10 : (2 : Nat) ^ n ≤ 1024 := Nat.pow_le_pow_right (by omega) (show n ≤ 10 by omega)
  have on1 : ((1 : Int32) <<< (Int32.ofNat n &&& 31)) - 1 = Int32.ofNat (2 ^ n - 1) := by rw [nb_one (by omega), nb_lit 1, nb_sub (Nat.two_pow_pos n)]
  have n1 := B.1
  intro q
  induction q with
  | zero =>
    intro r m hr hm no
    obtain ⟨m, rfl⟩ : ∃ j, m = j + 1 := ⟨m - 1, by omega⟩
    have cc : ¬ Int32.ofNat r < Int32.ofNat (n ^ g) := by rw [nn_lt (by omega) (by omega)]; omega
    refine ⟨-1, ?_, Or.inr ⟨rfl, fun r' h => no r' (by have := h.1; omega) h⟩⟩
    rw [f_X0_firstPostRow_L2_s]
    unfold f_X0_firstPostRow_L2_B
    rw [S.1.2.2.1, if_neg cc]
  | succ q ih =>
    intro r m hr hm no
    obtain ⟨m, rfl⟩ : ∃ j, m = j + 1 := ⟨m - 1, by omega⟩
    have cc : Int32.ofNat r < Int32.ofNat (n ^ g) := (nn_lt (by omega) (by omega)).mpr (by omega)
    obtain ⟨x, x1, x2, x3⟩ := S.2.2.1 r (by omega)
    have ld : hq_ld s 155 1000 (Int32.ofNat r) = some (Int32.ofNat x) := by rw [nn_ld (by omega) (by omega), x2]
    have eq : (Int32.ofNat x = Int32.ofNat (2 ^ n - 1)) = (x = 2 ^ n - 1) := nb_eq (by omega) (by omega)
    have pos : ∀ j, j < g → dgs n g r j < n := fun j hj => dgs_lt (by omega) g r j hj
    have test : x = 2 ^ n - 1 ↔ cPG n g tn r := by
      constructor
      · intro e
        refine ⟨by omega, fun c hc => ⟨K, (x3 c hc).mp ?_⟩⟩
        rw [e, Nat.testBit_two_pow_sub_one, decide_eq_true hc]
      · intro h
        apply nb_ext
        intro i
        rw [Nat.testBit_two_pow_sub_one]
        by_cases hi : i < n
        · rw [decide_eq_true hi]
          obtain ⟨k, hk⟩ := h.2 i hi
          exact (x3 i hi).mpr (Fx k _ i pos hi hk)
        · rw [decide_eq_false hi]
          cases z : x.testBit i with
          | false => rfl
          | true => exact absurd (nb_tlt x1 z) hi
    by_cases z : x = 2 ^ n - 1
    · have z1 : Int32.ofNat x = Int32.ofNat (2 ^ n - 1) := by rw [z]
      refine ⟨Int32.ofNat r, ?_, Or.inl ⟨r, rfl, test.mp z, no⟩⟩
      rw [f_X0_firstPostRow_L2_s]
      unfold f_X0_firstPostRow_L2_B
      rw [S.1.2.2.1, if_pos cc, ld, Option.bind_some, S.1.1, on1, if_pos z1]
    · have z1 : ¬ Int32.ofNat x = Int32.ofNat (2 ^ n - 1) := by rw [eq]; exact z
      obtain ⟨v, v1, v2⟩ := ih (r + 1) m (by omega) (by omega) (fun r' hr' => by
        by_cases e : r' = r
        · rw [e]; exact fun h => z (test.mpr h)
        · exact no r' (by omega))
      refine ⟨v, ?_, v2⟩
      rw [← v1, f_X0_firstPostRow_L2_s]
      unfold f_X0_firstPostRow_L2_B
      rw [S.1.2.2.1, if_pos cc, ld, Option.bind_some, S.1.1, on1, if_neg z1, nn_succ]
theorem fp_25 (hN : 10300 < N) (h1 : 1 ≤ nc) (hx : ∀ c, nx c < 2 ^ nc) : ∀ (q m f : Nat) (s : hq_S), m + q = 4 → q < f → 1 ≤ m → hCw nc (tnx nx) s → hl_S 103 nc nx s → hq_gi s 152 10 = 0 → (∀ g', 1 ≤ g' → g' < m → ∀ r', ¬ cPG nc g' (tnx nx) r') → ∃ s', f_X0_findPosts_L25 N f 103 (Int32.ofNat m) s = some s' ∧ hCw nc (tnx nx) s' ∧ cPo nc (tnx nx) s' ∧ hq_gi s' 152 9 = hq_gi s 152 9 ∧ ∀ c i, ¬ (152 ≤ c ∧ c ≤ 158) → hq_gi s' c i = hq_gi s c i := by
  intro q
  induction q with
  | zero =>
    intro m f s hm hf m1 H L h10 no
    obtain ⟨f, rfl⟩ : ∃ j, f = j + 1 := ⟨f - 1, by omega⟩
    have cc : (3 : Int32) < Int32.ofNat m := by rw [nb_lit 3, nn_lt (by omega) (by omega)]; omega
    refine ⟨s, ?_, H, Or.inr ⟨h10, fun g' a b r' => no g' a (by omega) r'⟩, rfl, fun _ _ _ => rfl⟩
    rw [f_X0_findPosts_L25_s]
    unfold f_X0_findPosts_L25_B
    rw [if_pos cc]
  | succ q ih =>
    intro m f s hm hf m1 H L h10 no
    obtain ⟨f, rfl⟩ : ∃ j, f = j + 1 := ⟨f - 1, by omega⟩
    have cc : ¬ (3 : Int32) < Int32.ofNat m := by rw [nb_lit 3, nn_lt (by omega) (by omega)]; omega
    have B := tnx_B h1 H.1 hx m1 (show m ≤ 3 by omega)
    have hM := cB_M B
    obtain ⟨K, s1, k1, e1, e2, e3, e4, e5, e6⟩ := so_fit (N := N) (m := m) hN h1 hx m1 (by omega) H L
    obtain ⟨v, v1, v2⟩ := fp_2 (N := N) B e2 e3 (nc ^ m) 0 N (by omega) (by omega) (fun r' h => by omega)
    have v1 : f_X0_firstPostRow N s1 = some (v, s1) := v1
    have g11 : hq_gi (hq_si s1 152 11 v) 152 11 = v := by rw [nb_ii, if_pos ⟨rfl, rfl⟩]
    rcases v2 with ⟨r, rfl, r1, r2⟩ | ⟨rfl, r1⟩
    · have nm : ¬ Int32.ofNat r = -1 := sw_m1n (by have := r1.1; omega)
      have m0 : ¬ Int32.ofNat m = 0 := by rw [nb_eq0 (by omega)]; omega
      -- found: the next turn of the loop ends it
      have s2 : hCw nc (tnx nx) (hq_si (hq_si s1 152 11 (Int32.ofNat r)) 152 10 (Int32.ofNat m)) := hCw_w (by omega) (hCw_w (by omega) e4)
      obtain ⟨f, rfl⟩ : ∃ j, f = j + 1 := ⟨f - 1, by omega⟩
      refine ⟨hq_si (hq_si s1 152 11 (Int32.ofNat r)) 152 10 (Int32.ofNat m), ?_, s2, Or.inl ⟨m, r, m1, by omega, by rw [nb_ii, if_pos ⟨rfl, rfl⟩], by rw [nb_ii, if_neg (fun z => by omega), nb_ii, if_pos ⟨rfl, rfl⟩], r1, r2, fun g' a b r' => no g' a b r'⟩, by rw [nb_ii, if_neg (fun z => by omega), nb_ii, if_neg (fun z => by omega)]; exact e5 9 (by omega), fun c i h => by rw [nb_ii, if_neg (fun z => by omega), nb_ii, if_neg (fun z => by omega)]; exact e6 c i h⟩
      have step : f_X0_findPosts_L25 N (f + 1 + 1) 103 (Int32.ofNat m) s = f_X0_findPosts_L25 N (f + 1) 103 (Int32.ofNat (m + 1)) (hq_si (hq_si s1 152 11 (Int32.ofNat r)) 152 10 (Int32.ofNat m)) := by
        rw [f_X0_findPosts_L25_s]
        conv => lhs; unfold f_X0_findPosts_L25_B
        rw [if_neg cc, if_pos h10, e1, Option.bind_some, v1, Option.bind_some, nn_pi, Option.bind_some, g11, if_neg nm, Option.bind_some, nn_pi, Option.bind_some, nn_succ]
      have g10 : hq_gi (hq_si (hq_si s1 152 11 (Int32.ofNat r)) 152 10 (Int32.ofNat m)) 152 10 = Int32.ofNat m := by rw [nb_ii, if_pos ⟨rfl, rfl⟩]
      rw [step, f_X0_findPosts_L25_s]
      unfold f_X0_findPosts_L25_B
      by_cases c3 : (3 : Int32) < Int32.ofNat (m + 1)
      · rw [if_pos c3]
      · rw [if_neg c3, g10, if_neg m0]
    · obtain ⟨s', f1, f2, f3, f4, f5⟩ := ih (m + 1) f (hq_si (hq_si s1 152 11 (-1)) 152 10 0) (by omega) (by omega) (by omega) (hCw_w (by omega) (hCw_w (by omega) e4)) ⟨by rw [nb_ii, if_neg (fun z => by omega), nb_ii, if_neg (fun z => by omega), e6 _ _ (by omega)]; exact L.1, fun d hd => by rw [nb_ii, if_neg (fun z => by omega), nb_ii, if_neg (fun z => by omega), e6 _ _ (by omega)]; exact L.2 d hd⟩ (by rw [nb_ii, if_pos ⟨rfl, rfl⟩]) (fun g' a b r' => by
        by_cases e : g' = m
        · rw [e]; exact r1 r'
        · exact no g' a (by omega) r')
      refine ⟨s', ?_, f2, f3, by rw [f4, nb_ii, if_neg (fun z => by omega), nb_ii, if_neg (fun z => by omega)]; exact e5 9 (by omega), fun c i h => by rw [f5 c i h, nb_ii, if_neg (fun z => by omega), nb_ii, if_neg (fun z => by omega)]; exact e6 c i h⟩
      rw [← f1, f_X0_findPosts_L25_s]
      conv => lhs; unfold f_X0_findPosts_L25_B
      rw [if_neg cc, if_pos h10, e1, Option.bind_some, v1, Option.bind_some, nn_pi, Option.bind_some, g11, if_pos rfl, Option.bind_some, nn_pi, Option.bind_some, nn_succ]
theorem fp_all {s : hq_S} (hN : 10300 < N) (h1 : 1 ≤ nc) (hnc : nc ≤ 10) (hx : ∀ c, nx c < 2 ^ nc) (H : hC s) (L : hl_S 103 nc nx s) : ∃ s', f_X0_findPosts N 103 s = some s' ∧ hCn nc (tnx nx) s' ∧ cPo nc (tnx nx) s' ∧ ∀ c i, ¬ (152 ≤ c ∧ c ≤ 158) → hq_gi s' c i = hq_gi s c i := by
  obtain ⟨s1, e1, e2, -, e4⟩ := ft_all (N := N) (by omega) hnc hx H L
  obtain ⟨a1, a2, a3, a4, a5, a6⟩ := id e2
  by_cases q : hq_gi s1 152 9 = 0
  · have pb : ∀ (s : hq_S), hq_pi s 152 9 1 1 = some (hq_si s 152 9 1) := fun _ => rfl
    have Hw : hCw nc (tnx nx) (hq_si (hq_si s1 152 9 1) 152 10 0) := hCw_w (by omega) (hCw_w (by omega) ⟨a1, a2, a3, a4, a5⟩)
    have ow : ∀ c i, ¬ c = 152 → hq_gi (hq_si (hq_si s1 152 9 1) 152 10 0) c i = hq_gi s1 c i := fun c i h => by rw [nb_ii, if_neg (fun z => h z.1), nb_ii, if_neg (fun z => h z.1)]
    obtain ⟨s2, f1, f2, f3, f4, f5⟩ := fp_25 (N := N) hN h1 hx 3 1 N (hq_si (hq_si s1 152 9 1) 152 10 0) (by omega) (by omega) (by omega) Hw ⟨by rw [ow _ _ (by omega), e4 _ _ (by omega) (by omega)]; exact L.1, fun d hd => by rw [ow _ _ (by omega), e4 _ _ (by omega) (by omega)]; exact L.2 d hd⟩ (by rw [nb_ii, if_pos ⟨rfl, rfl⟩]) (fun g' a b => by omega)
    have f1 : f_X0_findPosts_L25 N N 103 1 (hq_si (hq_si s1 152 9 1) 152 10 0) = some s2 := f1
    refine ⟨s2, ?_, ⟨f2.1, f2.2.1, f2.2.2.1, f2.2.2.2.1, f2.2.2.2.2, Or.inr ⟨?_, f3⟩⟩, f3, fun c i h => ?_⟩
    · unfold f_X0_findPosts
      rw [e1, Option.bind_some, if_pos q, pb, Option.bind_some, nn_pi, Option.bind_some, f1]
    · rw [f4, nb_ii, if_neg (fun z => by omega), nb_ii, if_pos ⟨rfl, rfl⟩]
    · rw [f5 c i h, ow _ _ (by omega), e4 _ _ (by omega) (by omega)]
  · refine ⟨s1, ?_, e2, ?_, fun c i h => e4 c i (by omega) (by omega)⟩
    · unfold f_X0_findPosts
      rw [e1, Option.bind_some, if_neg q]
    · rcases a6 with h | ⟨-, h⟩
      · exact absurd h q
      · exact h
end
