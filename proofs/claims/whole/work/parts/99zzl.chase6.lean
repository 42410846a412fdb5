/-! THE REFERENCE'S CHASE, ROUND BY ROUND -/
def cP (n g : Nat) (Q : (Nat → Nat) → Nat → Prop) (x : Nat) : Prop := cV n g x ∧ Q (dgs 10 (g + 1) x) (dgs 10 (g + 1) x g)
section
variable {N n g M : Nat} {nx : Nat → Nat}
theorem bo_0 : hq_nar .boolean (0 : Int32) = 0 ∧ hq_nar .boolean (1 : Int32) = 1 := by decide
theorem gb_k {s s' : hq_S} {k : Nat} {P : Nat → Prop} (e : ∀ x, x < M → hq_gi s' k x = hq_gi s k x) (h : gb M s k P) : gb M s' k P := fun x hx => by rw [e x hx]; exact h x hx
theorem sd_st {q14 : Int32 → Int32 → Int32 → hq_S → Option hq_S} {m x y b c W d T : Nat} {v : Int32} {s : hq_S} (hc : c < n) (hn : n ≤ 10) (hx : x < 10000) (hy : y < 10000) (hb : b < 4) (hT : T < 1024) (F : cm_F n g nx s) (h0 : hq_gi s 210 x = 0) (hd : hq_gi s 211 b = Int32.ofNat d) (q1 : T.testBit c = true) (ix : Int32.ofNat x + (Int32.ofNat c - Int32.ofNat d) * Int32.ofNat W = Int32.ofNat y) (h9 : hq_gi s 209 y = v) (hv : v = 0 ∨ v = 1) : f_X12_spreads_L62 N q14 (m + 1) (Int32.ofNat b) (Int32.ofNat W) (Int32.ofNat x) (Int32.ofNat T) (Int32.ofNat c) s = f_X12_spreads_L62 N q14 m (Int32.ofNat b) (Int32.ofNat W) (Int32.ofNat x) (Int32.ofNat T) (Int32.ofNat (c + 1)) (hq_si s 210 x v) := by
  have cc : Int32.ofNat c < Int32.ofNat n := (nn_lt (by omega) (by omega)).mpr (by omega)
  have l0 : hq_ld s 210 10000 (Int32.ofNat x) = some 0 := by rw [nn_ld hx (by omega), h0]
  have l1 : hq_ld s 211 4 (Int32.ofNat b) = some (Int32.ofNat d) := by rw [nn_ld hb (by omega), hd]
  have l2 : hq_ld s 209 10000 (Int32.ofNat y) = some v := by rw [nn_ld hy (by omega), h9]
  have b1 : ((Int32.ofNat T >>> (Int32.ofNat c &&& 31)) &&& (1 : Int32)) = 1 := by rw [nb_bit1 (by omega) (by omega)]; exact q1
  have st : ∀ v, hq_st s 210 10000 (Int32.ofNat x) v = some (hq_si s 210 x v) := fun v => nn_st hx (by omega)
  have vv : (if v = 0 then some (0 : Int32) else some 1) = some v := by rcases hv with h | h <;> rw [h] <;> decide
  have nv : hq_nar .boolean v = v := by
    rcases hv with h | h <;> rw [h]
    · exact bo_0.1
    · exact bo_0.2
  rw [f_X12_spreads_L62_s]
  unfold f_X12_spreads_L62_B
  rw [cm_n F, Option.bind_some, if_pos cc, l0, Option.bind_some, if_pos rfl, if_pos b1, l1, Option.bind_some, ix, l2, Option.bind_some, vv, Option.bind_some, nv, st, Option.bind_some, nn_succ]
theorem sd_s0 {q14 : Int32 → Int32 → Int32 → hq_S → Option hq_S} {m x b c W T : Nat} {s : hq_S} (hc : c < n) (hn : n ≤ 10) (hx : x < 10000) (hT : T < 1024) (F : cm_F n g nx s) (h0 : hq_gi s 210 x = 0) (q1 : ¬ T.testBit c = true) : f_X12_spreads_L62 N q14 (m + 1) (Int32.ofNat b) (Int32.ofNat W) (Int32.ofNat x) (Int32.ofNat T) (Int32.ofNat c) s = f_X12_spreads_L62 N q14 m (Int32.ofNat b) (Int32.ofNat W) (Int32.ofNat x) (Int32.ofNat T) (Int32.ofNat (c + 1)) (hq_si s 210 x 0) := by
  have cc : Int32.ofNat c < Int32.ofNat n := (nn_lt (by omega) (by omega)).mpr (by omega)
  have l0 : hq_ld s 210 10000 (Int32.ofNat x) = some 0 := by rw [nn_ld hx (by omega), h0]
  have b1 : ¬ ((Int32.ofNat T >>> (Int32.ofNat c &&& 31)) &&& (1 : Int32)) = 1 := by rw [nb_bit1 (by omega) (by omega)]; exact q1
  have st : ∀ v, hq_st s 210 10000 (Int32.ofNat x) v = some (hq_si s 210 x v) := fun v => nn_st hx (by omega)
  rw [f_X12_spreads_L62_s]
  unfold f_X12_spreads_L62_B
  rw [cm_n F, Option.bind_some, if_pos cc, l0, Option.bind_some, if_pos rfl, if_neg b1, Option.bind_some, bo_0.1, st, Option.bind_some, nn_succ]
theorem sd_s1 {q14 : Int32 → Int32 → Int32 → hq_S → Option hq_S} {m x c : Nat} {b W T : Int32} {s : hq_S} (hx : x < 10000) (F : cm_F n g nx s) (h0 : hq_gi s 210 x = 1) : f_X12_spreads_L62 N q14 (m + 1) b W (Int32.ofNat x) T (Int32.ofNat c) s = q14 b W (Int32.ofNat (x + 1)) s := by
  have l0 : hq_ld s 210 10000 (Int32.ofNat x) = some 1 := by rw [nn_ld hx (by omega), h0]
  have d10 : ¬ (1 : Int32) = 0 := by decide
  rw [f_X12_spreads_L62_s]
  unfold f_X12_spreads_L62_B f_X12_spreads_J131
  rw [cm_n F, Option.bind_some]
  by_cases cc : Int32.ofNat c < Int32.ofNat n
  · rw [if_pos cc, l0, Option.bind_some, if_neg d10, nn_succ]
  · rw [if_neg cc, nn_succ]
theorem sd_62 {q14 : Int32 → Int32 → Int32 → hq_S → Option hq_S} {k b x W : Nat} (hM : M ≤ 10000) (hn : n ≤ 10) (hg : g ≤ 3) (hb : b < g) (hnx : ∀ c, nx c < 2 ^ n) (hx : x < M) (V : cV n g x) (cu : ∀ c, c < n → ∃ y, y < M ∧ y + dgs 10 (g + 1) x b * W = x + c * W ∧ (cP n g (cH n g (tnx nx) k b) y ↔ cH n g (tnx nx) k b (pud (dgs 10 (g + 1) x) b c) (dgs 10 (g + 1) x g))) : ∀ (q c m : Nat) (s : hq_S), c + q = n → q < m → cm_F n g nx s → (∀ j, j < g + 1 → hq_gi s 211 j = Int32.ofNat (dgs 10 (g + 1) x j)) → gb M s 209 (cP n g (cH n g (tnx nx) k b)) → hq_gi s 210 x = 0 → (∀ t, t < c → (tnx nx (dgs 10 (g + 1) x b)).testBit t = true → ¬ cH n g (tnx nx) k b (pud (dgs 10 (g + 1) x) b t) (dgs 10 (g + 1) x g)) → ∃ s', f_X12_spreads_L62 N q14 m (Int32.ofNat b) (Int32.ofNat W) (Int32.ofNat x) (Int32.ofNat (tnx nx (dgs 10 (g + 1) x b))) (Int32.ofNat c) s = q14 (Int32.ofNat b) (Int32.ofNat W) (Int32.ofNat (x + 1)) s' ∧ ((hq_gi s' 210 x = 1 ∧ cH n g (tnx nx) k (b + 1) (dgs 10 (g + 1) x) (dgs 10 (g + 1) x g)) ∨ (hq_gi s' 210 x = 0 ∧ ¬ cH n g (tnx nx) k (b + 1) (dgs 10 (g + 1) x) (dgs 10 (g + 1) x g))) ∧ ∀ c i, ¬ (c = 210 ∧ i = x) → hq_gi s' c i = hq_gi s c i := by
  have dl : dgs 10 (g + 1) x b < n := V b (by omega)
  have tl := tnx_lt hn hnx (dgs 10 (g + 1) x b)
  intro q
  induction q with
  | zero =>
    intro c m s hc hm F D G h0 no
    obtain ⟨m, rfl⟩ : ∃ j, m = j + 1 := ⟨m - 1, by omega⟩
    have cc : ¬ Int32.ofNat c < Int32.ofNat n := by rw [nn_lt (by omega) (by omega)]; omega
    refine ⟨s, by simp only [f_X12_spreads_L62_s, f_X12_spreads_L62_B, f_X12_spreads_J131, cm_n F, Option.bind_some, if_neg cc, nn_succ], Or.inr ⟨h0, fun z => ?_⟩, fun _ _ _ => rfl⟩
    obtain ⟨t, t1, t2, t3⟩ := (cH_s hb).mp z
    exact no t (by omega) t2 t3
  | succ q ih =>
    intro c m s hc hm F D G h0 no
    obtain ⟨m, rfl⟩ : ∃ j, m = j + 1 := ⟨m - 1, by omega⟩
    have ow : ∀ v c i, ¬ (c = 210 ∧ i = x) → hq_gi (hq_si s 210 x v) c i = hq_gi s c i := fun v c i h => by rw [nb_ii, if_neg h]
    have go := fun (hno : (tnx nx (dgs 10 (g + 1) x b)).testBit c = true → ¬ cH n g (tnx nx) k b (pud (dgs 10 (g + 1) x) b c) (dgs 10 (g + 1) x g)) => ih (c + 1) m (hq_si s 210 x 0) (by omega) (by omega) (cm_F_k (fun c i h => ow _ c i (by omega)) F) (fun j hj => by rw [ow _ _ _ (by omega)]; exact D j hj) (gb_k (fun y _ => ow _ _ _ (by omega)) G) (by rw [nb_ii, if_pos ⟨rfl, rfl⟩]) (fun t ht => by
      by_cases e : t = c
      · rw [e]; exact hno
      · exact no t (by omega))
    by_cases q1 : (tnx nx (dgs 10 (g + 1) x b)).testBit c = true
    · obtain ⟨y, y1, y2, y3⟩ := cu c (by omega)
      have ix := i32_ix y2
      rcases G y y1 with ⟨g1, g2⟩ | ⟨g1, g2⟩
      · have yes : cH n g (tnx nx) k (b + 1) (dgs 10 (g + 1) x) (dgs 10 (g + 1) x g) := (cH_s hb).mpr ⟨c, by omega, q1, y3.mp g2⟩
        obtain ⟨m, rfl⟩ : ∃ j, m = j + 1 := ⟨m - 1, by omega⟩
        refine ⟨hq_si s 210 x 1, ?_, Or.inl ⟨by rw [nb_ii, if_pos ⟨rfl, rfl⟩], yes⟩, fun c i h => ow _ c i h⟩
        rw [sd_st (by omega) hn (by omega) (by omega) (by omega) tl F h0 (D b (by omega)) q1 ix g1 (Or.inr rfl)]
        exact sd_s1 (by omega) (cm_F_k (fun c i h => ow _ c i (by omega)) F) (by rw [nb_ii, if_pos ⟨rfl, rfl⟩])
      · obtain ⟨s', e1, e2, e3⟩ := go (fun _ z => g2 (y3.mpr z))
        refine ⟨s', ?_, e2, fun c i h => (e3 c i h).trans (ow _ c i h)⟩
        rw [← e1]
        exact sd_st (by omega) hn (by omega) (by omega) (by omega) tl F h0 (D b (by omega)) q1 ix g1 (Or.inl rfl)
    · obtain ⟨s', e1, e2, e3⟩ := go (fun z => absurd z q1)
      refine ⟨s', ?_, e2, fun c i h => (e3 c i h).trans (ow _ c i h)⟩
      rw [← e1]
      exact sd_s0 (by omega) hn (by omega) tl F h0 q1
theorem sd_139 {a1 a2 : Int32} {P : Nat → Prop} (hM : M ≤ 10000) : ∀ (q x m : Nat) (s : hq_S), x + q = M → q < m → (∀ s' : hq_S, (∀ c i, ¬ c = 209 → hq_gi s' c i = hq_gi s c i) → hq_ld s' 212 5 ((hq_gi s' 174 60) + 1) = some (Int32.ofNat M)) → gb M s 210 P → (∀ y, y < x → (hq_gi s 209 y = 1 ∧ P y) ∨ (hq_gi s 209 y = 0 ∧ ¬ P y)) → ∃ s', f_X12_spreads_L139 N m a1 a2 (Int32.ofNat x) s = some s' ∧ gb M s' 209 P ∧ ∀ c i, ¬ c = 209 → hq_gi s' c i = hq_gi s c i := by
  intro q
  induction q with
  | zero =>
    intro x m s hx hm pw G h
    obtain ⟨m, rfl⟩ : ∃ j, m = j + 1 := ⟨m - 1, by omega⟩
    have cc : ¬ Int32.ofNat x < Int32.ofNat M := by rw [nn_lt (by omega) (by omega)]; omega
    exact ⟨s, by simp only [f_X12_spreads_L139_s, f_X12_spreads_L139_B, pw s (fun _ _ _ => rfl), Option.bind_some, if_neg cc], fun y hy => h y (by omega), fun _ _ _ => rfl⟩
  | succ q ih =>
    intro x m s hx hm pw G h
    obtain ⟨m, rfl⟩ : ∃ j, m = j + 1 := ⟨m - 1, by omega⟩
    have cc : Int32.ofNat x < Int32.ofNat M := (nn_lt (by omega) (by omega)).mpr (by omega)
    have st : ∀ v, hq_st s 209 10000 (Int32.ofNat x) v = some (hq_si s 209 x v) := fun v => nn_st (by omega) (by omega)
    have ld : hq_ld s 210 10000 (Int32.ofNat x) = some (hq_gi s 210 x) := nn_ld (by omega) (by omega)
    have nar : hq_nar .boolean (hq_gi s 210 x) = hq_gi s 210 x := by
      rcases G x (by omega) with ⟨z, -⟩ | ⟨z, -⟩ <;> rw [z]
      · exact bo_0.2
      · exact bo_0.1
    have ow : ∀ c i, ¬ c = 209 → hq_gi (hq_si s 209 x (hq_gi s 210 x)) c i = hq_gi s c i := fun c i h => by rw [nb_ii, if_neg (fun z => h z.1)]
    obtain ⟨s', e1, e2, e3⟩ := ih (x + 1) m (hq_si s 209 x (hq_gi s 210 x)) (by omega) (by omega) (fun s' h' => pw s' (fun c i hc => (h' c i hc).trans (ow c i hc))) (gb_k (fun y _ => ow _ _ (by omega)) G) (fun y hy => by
      by_cases e : y = x
      · rw [e, nb_ii, if_pos ⟨rfl, rfl⟩]
        exact G x (by omega)
      · rw [nb_ii, if_neg (fun z => e z.2)]
        exact h y (by omega))
    refine ⟨s', ?_, e2, fun c i h => (e3 c i h).trans (ow c i h)⟩
    rw [← e1]
    simp only [f_X12_spreads_L139_s, f_X12_spreads_L139_B, pw s (fun _ _ _ => rfl), Option.bind_some, if_pos cc, ld, nar, st, nn_succ]
theorem sd_14 {k b : Nat} (hN : 10300 < N) (eM : M = 10 ^ (g + 1)) (hn : n ≤ 10) (hg : g ≤ 3) (hb : b < g) (hnx : ∀ c, nx c < 2 ^ n) : ∀ (q x m : Nat) (s : hq_S), x + q = M → q < m → cm_F n g nx s → gb M s 209 (cP n g (cH n g (tnx nx) k b)) → (∀ y, y < x → (hq_gi s 210 y = 1 ∧ cP n g (cH n g (tnx nx) k (b + 1)) y) ∨ (hq_gi s 210 y = 0 ∧ ¬ cP n g (cH n g (tnx nx) k (b + 1)) y)) → ∃ s', f_X12_spreads_L14 N m (Int32.ofNat b) (Int32.ofNat (10 ^ (g - b))) (Int32.ofNat x) s = some s' ∧ gb M s' 209 (cP n g (cH n g (tnx nx) k (b + 1))) ∧ ∀ c i, ¬ c = 209 → ¬ c = 210 → ¬ c = 211 → hq_gi s' c i = hq_gi s c i := by
  have hM : M ≤ 10000 := by rw [eM]; exact p10g hg
  have pw : ∀ s' : hq_S, cm_F n g nx s' → hq_ld s' 212 5 ((hq_gi s' 174 60) + 1) = some (Int32.ofNat M) := fun s' F => by
    rw [F.2.1, eM]
    have e : Int32.ofNat g + 1 = Int32.ofNat (g + 1) := nb_add g 1
    rw [e]
    exact cm_p (by omega) F
  intro q
  induction q with
  | zero =>
    intro x m s hx hm F G h
    obtain ⟨m, rfl⟩ : ∃ j, m = j + 1 := ⟨m - 1, by omega⟩
    have cc : ¬ Int32.ofNat x < Int32.ofNat M := by rw [nn_lt (by omega) (by omega)]; omega
    obtain ⟨s', e1, e2, e3⟩ := sd_139 (N := N) (a1 := Int32.ofNat b) (a2 := Int32.ofNat (10 ^ (g - b))) (P := cP n g (cH n g (tnx nx) k (b + 1))) hM M 0 N s (by omega) (by omega) (fun s' h' => pw s' (cm_F_k (fun c i hc => h' c i (by omega)) F)) (fun y hy => h y (by omega)) (fun y hy => by omega)
    have e1 : f_X12_spreads_L139 N N (Int32.ofNat b) (Int32.ofNat (10 ^ (g - b))) 0 s = some s' := e1
    exact ⟨s', by simp only [f_X12_spreads_L14_s, f_X12_spreads_L14_B, pw s F, Option.bind_some, if_neg cc, e1], e2, fun c i h1 h2 h3 => e3 c i h1⟩
  | succ q ih =>
    intro x m s hx hm F G h
    obtain ⟨m, rfl⟩ : ∃ j, m = j + 1 := ⟨m - 1, by omega⟩
    have cc : Int32.ofNat x < Int32.ofNat M := (nn_lt (by omega) (by omega)).mpr (by omega)
    have st : hq_st s 210 10000 (Int32.ofNat x) 0 = some (hq_si s 210 x 0) := nn_st (by omega) (by omega)
    have ow : ∀ c i, ¬ (c = 210 ∧ i = x) → hq_gi (hq_si s 210 x 0) c i = hq_gi s c i := fun c i h => by rw [nb_ii, if_neg h]
    have F1 : cm_F n g nx (hq_si s 210 x 0) := cm_F_k (fun c i h => ow c i (by omega)) F
    have hxM : x < 10 ^ (g + 1) := by rw [← eM]; omega
    obtain ⟨v, s1, r1, r2, r3⟩ := r10 (N := N) (x := x) (by omega) hn hg hxM F1
    have F2 : cm_F n g nx s1 := cm_F_k (fun c i h => r2 c i (by omega)) F1
    rcases r3 with ⟨rfl, V, D⟩ | ⟨rfl, V⟩
    · have d10 : ¬ (1 : Int32) = 0 := by decide
      have dl : dgs 10 (g + 1) x b < n := V b (by omega)
      have l1 : hq_ld s1 211 4 (Int32.ofNat b) = some (Int32.ofNat (dgs 10 (g + 1) x b)) := by rw [nn_ld (by omega) (by omega), D b (by omega)]
      have go := cm_go (N := N) (show dgs 10 (g + 1) x b < 10 by omega) F2
      obtain ⟨s2, e1, e2, e3⟩ := sd_62 (N := N) (q14 := f_X12_spreads_L14 N m) (k := k) (b := b) (x := x) (W := 10 ^ (g - b)) hM hn hg hb hnx (by omega) V (fun c hc => by
        obtain ⟨u1, u2, u3, u4⟩ := cd_up (i := b) hn (by omega) hxM V hc
        refine ⟨_, by rw [eM]; exact u1, u2, ?_⟩
        have e9 : dgs 10 (g + 1) (enc 10 (pud (dgs 10 (g + 1) x) b c) (g + 1)) g = dgs 10 (g + 1) x g := by rw [u3 g (by omega), pud_n (by omega)]
        unfold cP
        rw [e9]
        refine ⟨fun z => (cH_cg fun j hj => u3 j (by omega)).mp z.2, fun z => ⟨u4, (cH_cg fun j hj => u3 j (by omega)).mpr z⟩⟩) n 0 N s1 (by omega) (by omega) F2 D (gb_k (fun y _ => by rw [r2 _ _ (by omega), ow _ _ (by omega)]) G) (by rw [r2 _ _ (by omega), nb_ii, if_pos ⟨rfl, rfl⟩]) (fun t ht => by omega)
      have e1 : f_X12_spreads_L62 N (f_X12_spreads_L14 N m) N (Int32.ofNat b) (Int32.ofNat (10 ^ (g - b))) (Int32.ofNat x) (Int32.ofNat (tnx nx (dgs 10 (g + 1) x b))) 0 s1 = _ := e1
      obtain ⟨s', f1, f2, f3⟩ := ih (x + 1) m s2 (by omega) (by omega) (cm_F_k (fun c i h => e3 c i (by omega)) F2) (gb_k (fun y _ => by rw [e3 _ _ (by omega), r2 _ _ (by omega), ow _ _ (by omega)]) G) (fun y hy => by
        by_cases e : y = x
        · rw [e]
          rcases e2 with ⟨z1, z2⟩ | ⟨z1, z2⟩
          · exact Or.inl ⟨z1, V, z2⟩
          · exact Or.inr ⟨z1, fun z => z2 z.2⟩
        · rw [e3 _ _ (by omega), r2 _ _ (by omega), ow _ _ (by omega)]
          exact h y (by omega))
      refine ⟨s', ?_, f2, fun c i h1 h2 h3 => by rw [f3 c i h1 h2 h3, e3 _ _ (by omega), r2 _ _ (by omega), ow _ _ (by omega)]⟩
      rw [← f1, ← e1]
      simp only [f_X12_spreads_L14_s, f_X12_spreads_L14_B, pw s F, Option.bind_some, if_pos cc, bo_0.1, st, r1, if_neg d10, l1, go]
    · obtain ⟨s', f1, f2, f3⟩ := ih (x + 1) m s1 (by omega) (by omega) F2 (gb_k (fun y _ => by rw [r2 _ _ (by omega), ow _ _ (by omega)]) G) (fun y hy => by
        by_cases e : y = x
        · rw [e, r2 _ _ (by omega), nb_ii, if_pos ⟨rfl, rfl⟩]
          exact Or.inr ⟨rfl, fun z => V z.1⟩
        · rw [r2 _ _ (by omega), ow _ _ (by omega)]
          exact h y (by omega))
      refine ⟨s', ?_, f2, fun c i h1 h2 h3 => by rw [f3 c i h1 h2 h3, r2 _ _ (by omega), ow _ _ (by omega)]⟩
      rw [← f1]
      simp only [f_X12_spreads_L14_s, f_X12_spreads_L14_B, f_X12_spreads_J131, pw s F, Option.bind_some, if_pos cc, bo_0.1, st, r1, if_true, nn_succ]
theorem sd_130 {q69 : Int32 → Int32 → Int32 → hq_S → Option hq_S} {k : Nat} {a2 a3 : Int32} (hN : 10300 < N) (eM : M = 10 ^ (g + 1)) (hn : n ≤ 10) (hg : g ≤ 3) (hnx : ∀ c, nx c < 2 ^ n) : ∀ (q b m : Nat) (s : hq_S), b + q = g → q < m → cm_F n g nx s → gb M s 209 (cP n g (cH n g (tnx nx) k b)) → ∃ s', f_X12_laysChase_L130 N q69 m (Int32.ofNat g) a2 a3 (Int32.ofNat b) s = f_X12_laysChase_L151 N q69 N (Int32.ofNat g) a2 a3 0 s' ∧ gb M s' 209 (cP n g (cH n g (tnx nx) k g)) ∧ ∀ c i, ¬ c = 209 → ¬ c = 210 → ¬ c = 211 → hq_gi s' c i = hq_gi s c i := by
  intro q
  induction q with
  | zero =>
    intro b m s hb hm F G
    obtain ⟨m, rfl⟩ : ∃ j, m = j + 1 := ⟨m - 1, by omega⟩
    have hb : b = g := by omega
    subst hb
    have cc : ¬ Int32.ofNat b < Int32.ofNat b := by rw [nn_lt (by omega) (by omega)]; omega
    exact ⟨s, by simp only [f_X12_laysChase_L130_s, f_X12_laysChase_L130_B, if_neg cc], G, fun _ _ _ _ _ => rfl⟩
  | succ q ih =>
    intro b m s hb hm F G
    obtain ⟨m, rfl⟩ : ∃ j, m = j + 1 := ⟨m - 1, by omega⟩
    have hM : M ≤ 10000 := by rw [eM]; exact p10g hg
    have cc : Int32.ofNat b < Int32.ofNat g := (nn_lt (by omega) (by omega)).mpr (by omega)
    have pw : hq_ld s 212 5 ((hq_gi s 174 60) - Int32.ofNat b) = some (Int32.ofNat (10 ^ (g - b))) := by
      rw [F.2.1, nb_sub (by omega)]
      exact cm_p (by omega) F
    obtain ⟨s1, e1, e2, e3⟩ := sd_14 (N := N) (k := k) (b := b) hN eM hn hg (by omega) hnx M 0 N s (by omega) (by omega) F G (fun y hy => by omega)
    have e1 : f_X12_spreads_L14 N N (Int32.ofNat b) (Int32.ofNat (10 ^ (g - b))) 0 s = some s1 := e1
    obtain ⟨s', f1, f2, f3⟩ := ih (b + 1) m s1 (by omega) (by omega) (cm_F_k (fun c i h => e3 c i (by omega) (by omega) (by omega)) F) e2
    refine ⟨s', ?_, f2, fun c i h1 h2 h3 => (f3 c i h1 h2 h3).trans (e3 c i h1 h2 h3)⟩
    rw [← f1]
    simp only [f_X12_laysChase_L130_s, f_X12_laysChase_L130_B, if_pos cc, f_X12_spreads, pw, e1, Option.bind_some, nn_succ]
theorem ly_78 {q69 : Int32 → Int32 → Int32 → hq_S → Option hq_S} {k : Nat} {a2 a3 : Int32} (hN : 10300 < N) (eM : M = 10 ^ (g + 1)) (hn : n ≤ 10) (hg : g ≤ 3) (hk : k < 20000) (hnx : ∀ c, nx c < 2 ^ n) : ∀ (q x m : Nat) (s : hq_S), x + q = M → q < m → cm_F n g nx s → (∀ x, x < 10 ^ (g + 1) → rb n g (tnx nx) k x (hq_gi s 208 x)) → (∀ y, y < x → (hq_gi s 209 y = 1 ∧ cP n g (cT n g (tnx nx) k) y) ∨ (hq_gi s 209 y = 0 ∧ ¬ cP n g (cT n g (tnx nx) k) y)) → ∃ s', f_X12_laysChase_L78 N q69 m (Int32.ofNat g) a2 a3 (Int32.ofNat x) s = f_X12_laysChase_L130 N q69 N (Int32.ofNat g) a2 a3 0 s' ∧ gb M s' 209 (cP n g (cT n g (tnx nx) k)) ∧ ∀ c i, ¬ c = 209 → ¬ c = 211 → hq_gi s' c i = hq_gi s c i := by
  have hM : M ≤ 10000 := by rw [eM]; exact p10g hg
  have pw : ∀ s' : hq_S, cm_F n g nx s' → hq_ld s' 212 5 (Int32.ofNat (g + 1)) = some (Int32.ofNat M) := fun s' F => by
    rw [eM]
    exact cm_p (by omega) F
  intro q
  induction q with
  | zero =>
    intro x m s hx hm F R h
    obtain ⟨m, rfl⟩ : ∃ j, m = j + 1 := ⟨m - 1, by omega⟩
    have cc : ¬ Int32.ofNat x < Int32.ofNat M := by rw [nn_lt (by omega) (by omega)]; omega
    exact ⟨s, by simp only [f_X12_laysChase_L78_s, f_X12_laysChase_L78_B, nn_succ, pw s F, Option.bind_some, if_neg cc], fun y hy => h y (by omega), fun _ _ _ _ => rfl⟩
  | succ q ih =>
    intro x m s hx hm F R h
    obtain ⟨m, rfl⟩ : ∃ j, m = j + 1 := ⟨m - 1, by omega⟩
    have cc : Int32.ofNat x < Int32.ofNat M := (nn_lt (by omega) (by omega)).mpr (by omega)
    have hxM : x < 10 ^ (g + 1) := by rw [← eM]; omega
    obtain ⟨v, s1, r1, r2, r3⟩ := r10 (N := N) (x := x) (by omega) hn hg hxM F
    have F2 : cm_F n g nx s1 := cm_F_k (fun c i h => r2 c i (by omega)) F
    have R1 : ∀ x, x < 10 ^ (g + 1) → rb n g (tnx nx) k x (hq_gi s1 208 x) := fun x hx => by rw [r2 _ _ (by omega)]; exact R x hx
    have st : ∀ v, hq_st s1 209 10000 (Int32.ofNat x) v = some (hq_si s1 209 x v) := fun v => nn_st (by omega) (by omega)
    have ow : ∀ v c i, ¬ (c = 209 ∧ i = x) → hq_gi (hq_si s1 209 x v) c i = hq_gi s1 c i := fun v c i h => by rw [nb_ii, if_neg h]
    have go : ∀ v : Int32, ((v = 1 ∧ cP n g (cT n g (tnx nx) k) x) ∨ (v = 0 ∧ ¬ cP n g (cT n g (tnx nx) k) x)) → ∃ s', f_X12_laysChase_L78 N q69 m (Int32.ofNat g) a2 a3 (Int32.ofNat (x + 1)) (hq_si s1 209 x v) = f_X12_laysChase_L130 N q69 N (Int32.ofNat g) a2 a3 0 s' ∧ gb M s' 209 (cP n g (cT n g (tnx nx) k)) ∧ ∀ c i, ¬ c = 209 → ¬ c = 211 → hq_gi s' c i = hq_gi s c i := fun v hv => by
      obtain ⟨s', f1, f2, f3⟩ := ih (x + 1) m (hq_si s1 209 x v) (by omega) (by omega) (cm_F_k (fun c i h => ow _ c i (by omega)) F2) (fun x hx => by rw [ow _ _ _ (by omega)]; exact R1 x hx) (fun y hy => by
        by_cases e : y = x
        · rw [e, nb_ii, if_pos ⟨rfl, rfl⟩]; exact hv
        · rw [ow _ _ _ (by omega), r2 _ _ (by omega)]; exact h y (by omega))
      exact ⟨s', f1, f2, fun c i h1 h2 => by rw [f3 c i h1 h2, ow _ _ _ (by omega), r2 _ _ h2]⟩
    have d10 : ¬ (1 : Int32) = 0 := by decide
    rcases r3 with ⟨rfl, V, D⟩ | ⟨rfl, V⟩
    · obtain ⟨w, w1, w2⟩ := il (N := N) (k := k) (x := x) (s := s1) (by omega) hn hg hk hnx hxM V F2 D R1
      rcases w2 with ⟨rfl, w2⟩ | ⟨rfl, w2⟩
      · obtain ⟨s', f1, f2⟩ := go 1 (Or.inl ⟨rfl, V, w2⟩)
        refine ⟨s', ?_, f2⟩
        rw [← f1]
        simp only [f_X12_laysChase_L78_s, f_X12_laysChase_L78_B, pw s F, Option.bind_some, if_pos cc, r1, if_neg d10, w1, bo_0.2, st, nn_succ]
      · obtain ⟨s', f1, f2⟩ := go 0 (Or.inr ⟨rfl, fun z => w2 z.2⟩)
        refine ⟨s', ?_, f2⟩
        rw [← f1]
        simp only [f_X12_laysChase_L78_s, f_X12_laysChase_L78_B, pw s F, Option.bind_some, if_pos cc, r1, if_neg d10, w1, if_true, bo_0.1, st, nn_succ]
    · obtain ⟨s', f1, f2⟩ := go 0 (Or.inr ⟨rfl, fun z => V z.1⟩)
      refine ⟨s', ?_, f2⟩
      rw [← f1]
      simp only [f_X12_laysChase_L78_s, f_X12_laysChase_L78_B, pw s F, Option.bind_some, if_pos cc, r1, if_true, bo_0.1, st, nn_succ]
theorem ly_151 {q69 : Int32 → Int32 → Int32 → hq_S → Option hq_S} {k : Nat} (eM : M = 10 ^ (g + 1)) (hg : g ≤ 3) (hk : k < 20000) : ∀ (q x m : Nat) (a2 : Int32) (s : hq_S), x + q = M → q < m → cm_F n g nx s → gb M s 209 (cP n g (cH n g (tnx nx) k g)) → (∀ y, y < M → if y < x then rb n g (tnx nx) (k + 1) y (hq_gi s 208 y) else rb n g (tnx nx) k y (hq_gi s 208 y)) → (a2 = 0 ∨ a2 = 1) → (a2 = 1 ↔ ∃ y, y < x ∧ ¬ cP n g (cL n g (tnx nx) k) y ∧ cP n g (cL n g (tnx nx) (k + 1)) y) → ∃ a2' s', f_X12_laysChase_L151 N q69 m (Int32.ofNat g) a2 (Int32.ofNat (k + 1)) (Int32.ofNat x) s = q69 (Int32.ofNat g) a2' (Int32.ofNat (k + 2)) s' ∧ (∀ y, y < M → rb n g (tnx nx) (k + 1) y (hq_gi s' 208 y)) ∧ (a2' = 0 ∨ a2' = 1) ∧ (a2' = 1 ↔ ∃ y, y < M ∧ ¬ cP n g (cL n g (tnx nx) k) y ∧ cP n g (cL n g (tnx nx) (k + 1)) y) ∧ ∀ c i, ¬ c = 208 → hq_gi s' c i = hq_gi s c i := by
  have hM : M ≤ 10000 := by rw [eM]; exact p10g hg
  have pw : ∀ s' : hq_S, cm_F n g nx s' → hq_ld s' 212 5 (Int32.ofNat (g + 1)) = some (Int32.ofNat M) := fun s' F => by
    rw [eM]
    exact cm_p (by omega) F
  intro q
  induction q with
  | zero =>
    intro x m a2 s hx hm F G R h2 h2'
    obtain ⟨m, rfl⟩ : ∃ j, m = j + 1 := ⟨m - 1, by omega⟩
    have cc : ¬ Int32.ofNat x < Int32.ofNat M := by rw [nn_lt (by omega) (by omega)]; omega
    rw [show x = M by omega] at h2'
    refine ⟨a2, s, by simp only [f_X12_laysChase_L151_s, f_X12_laysChase_L151_B, pw s F, Option.bind_some, if_neg cc, nn_succ], fun y hy => ?_, h2, h2', fun _ _ _ => rfl⟩
    have := R y hy
    rw [if_pos (by omega)] at this
    exact this
  | succ q ih =>
    intro x m a2 s hx hm F G R h2 h2'
    obtain ⟨m, rfl⟩ : ∃ j, m = j + 1 := ⟨m - 1, by omega⟩
    have cc : Int32.ofNat x < Int32.ofNat M := (nn_lt (by omega) (by omega)).mpr (by omega)
    have Rx := R x (by omega)
    rw [if_neg (by omega)] at Rx
    have t := rb_m1 hk Rx
    have l9 : hq_ld s 209 10000 (Int32.ofNat x) = some (hq_gi s 209 x) := nn_ld (by omega) (by omega)
    have l8 : hq_ld s 208 10000 (Int32.ofNat x) = some (hq_gi s 208 x) := nn_ld (by omega) (by omega)
    have nxt : cP n g (cL n g (tnx nx) (k + 1)) x ↔ (cP n g (cL n g (tnx nx) k) x ∨ cP n g (cH n g (tnx nx) k g) x) := by
      unfold cP
      rw [← cH_g]
      exact ⟨fun z => z.2.elim (fun w => Or.inl ⟨z.1, w⟩) (fun w => Or.inr ⟨z.1, w⟩), fun z => z.elim (fun w => ⟨w.1, Or.inl w.2⟩) (fun w => ⟨w.1, Or.inr w.2⟩)⟩
    -- nothing new at x
    have old : (cP n g (cL n g (tnx nx) (k + 1)) x → cP n g (cL n g (tnx nx) k) x) → ∃ a2' s', f_X12_laysChase_L151 N q69 m (Int32.ofNat g) a2 (Int32.ofNat (k + 1)) (Int32.ofNat (x + 1)) s = q69 (Int32.ofNat g) a2' (Int32.ofNat (k + 2)) s' ∧ (∀ y, y < M → rb n g (tnx nx) (k + 1) y (hq_gi s' 208 y)) ∧ (a2' = 0 ∨ a2' = 1) ∧ (a2' = 1 ↔ ∃ y, y < M ∧ ¬ cP n g (cL n g (tnx nx) k) y ∧ cP n g (cL n g (tnx nx) (k + 1)) y) ∧ ∀ c i, ¬ c = 208 → hq_gi s' c i = hq_gi s c i := fun hno => ih (x + 1) m a2 s (by omega) (by omega) F G (fun y hy => by
      have h := R y hy
      by_cases e : y = x
      · rw [if_pos (by omega), e]
        rcases Rx with ⟨j, j1, j2, j3, j4⟩ | ⟨j1, j2⟩
        · exact Or.inl ⟨j, by omega, j2, j3, j4⟩
        · exact Or.inr ⟨j1, fun z => j2 (hno z)⟩
      · by_cases w : y < x
        · rw [if_pos w] at h; rw [if_pos (by omega)]; exact h
        · rw [if_neg w] at h; rw [if_neg (by omega)]; exact h) h2 (by
      rw [h2']
      constructor
      · rintro ⟨y, y1, y2⟩
        exact ⟨y, by omega, y2⟩
      · rintro ⟨y, y1, y2, y3⟩
        by_cases e : y = x
        · rw [e] at y2 y3; exact absurd (hno y3) y2
        · exact ⟨y, by omega, y2, y3⟩)
    rcases G x (by omega) with ⟨g1, g2⟩ | ⟨g1, g2⟩
    · have d10 : ¬ (1 : Int32) = 0 := by decide
      by_cases q1 : hq_gi s 208 x = -1
      · have nw : ¬ cP n g (cL n g (tnx nx) k) x := t.mp q1
        have nw2 : cP n g (cL n g (tnx nx) (k + 1)) x := nxt.mpr (Or.inr g2)
        have st : hq_st s 208 10000 (Int32.ofNat x) (Int32.ofNat (k + 1)) = some (hq_si s 208 x (Int32.ofNat (k + 1))) := nn_st (by omega) (by omega)
        have ow : ∀ c i, ¬ (c = 208 ∧ i = x) → hq_gi (hq_si s 208 x (Int32.ofNat (k + 1))) c i = hq_gi s c i := fun c i h => by rw [nb_ii, if_neg h]
        obtain ⟨a2', s', f1, f2, f3, f4, f5⟩ := ih (x + 1) m 1 (hq_si s 208 x (Int32.ofNat (k + 1))) (by omega) (by omega) (cm_F_k (fun c i h => ow c i (by omega)) F) (gb_k (fun y _ => ow _ _ (by omega)) G) (fun y hy => by
          by_cases e : y = x
          · rw [if_pos (by omega), e, nb_ii, if_pos ⟨rfl, rfl⟩]
            exact Or.inl ⟨k + 1, Nat.le_refl _, nw2.1, cE_new (fun z => nw ⟨nw2.1, z⟩) nw2.2, rfl⟩
          · rw [ow _ _ (by omega)]
            have h := R y hy
            by_cases w : y < x
            · rw [if_pos w] at h; rw [if_pos (by omega)]; exact h
            · rw [if_neg w] at h; rw [if_neg (by omega)]; exact h) (Or.inr rfl) ⟨fun _ => ⟨x, by omega, nw, nw2⟩, fun _ => rfl⟩
        refine ⟨a2', s', ?_, f2, f3, f4, fun c i h => (f5 c i h).trans (ow c i (by omega))⟩
        rw [← f1]
        simp only [f_X12_laysChase_L151_s, f_X12_laysChase_L151_B, pw s F, Option.bind_some, if_pos cc, l9, g1, if_neg d10, l8, if_pos q1, st, nn_succ]
      · obtain ⟨a2', s', f1, f2⟩ := old (fun _ => Classical.byContradiction fun z => q1 (t.mpr z))
        refine ⟨a2', s', ?_, f2⟩
        rw [← f1]
        simp only [f_X12_laysChase_L151_s, f_X12_laysChase_L151_B, pw s F, Option.bind_some, if_pos cc, l9, g1, if_neg d10, l8, if_neg q1, nn_succ]
    · obtain ⟨a2', s', f1, f2⟩ := old (fun z => (nxt.mp z).resolve_right g2)
      refine ⟨a2', s', ?_, f2⟩
      rw [← f1]
      simp only [f_X12_laysChase_L151_s, f_X12_laysChase_L151_B, pw s F, Option.bind_some, if_pos cc, l9, g1, if_true, nn_succ]
end
