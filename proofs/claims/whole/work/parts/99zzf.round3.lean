/-! THE REFERENCE'S ROUND -/
section
variable {N nc a : Nat} {nx : Nat → Nat} {HC : hq_S → Prop}
theorem gf_ok : mm_rfit (mm_ret mc_X12_goesFrom) 0 = true ∧ mm_rfit (mm_ret mc_X12_goesFrom) 1 = true := by decide
theorem gf_5 {c0 S0 d : Nat} {s0 : hq_S} (hnc : nc ≤ 10) (hx : ∀ c, nx c < 2 ^ nc) (hc0 : c0 < nc) (hS0 : S0 < 2 ^ nc) : ∀ (q c1 m : Nat) (a3 : Int32) (s : hq_S), c1 + q = nc → q < m → hl_R nc nx s → (∀ c i, ¬ c = 218 → hq_gi s c i = hq_gi s0 c i) → (∀ c S, c < nc → S < 1024 → (c < c1 ∧ (nx c0).testBit c = true ∧ S0 ||| 2 ^ c = S ∧ hq_gi s0 218 (1024 * c + S) = -1 → hq_gi s 218 (1024 * c + S) = Int32.ofNat (d + 1)) ∧ (¬ (c < c1 ∧ (nx c0).testBit c = true ∧ S0 ||| 2 ^ c = S ∧ hq_gi s0 218 (1024 * c + S) = -1) → hq_gi s 218 (1024 * c + S) = hq_gi s0 218 (1024 * c + S))) → (a3 = 0 ∨ a3 = 1) → (a3 = 1 ↔ ∃ c, c < c1 ∧ (nx c0).testBit c = true ∧ hq_gi s0 218 (1024 * c + (S0 ||| 2 ^ c)) = -1) → ∃ v s', f_X12_goesFrom_L5 N m (Int32.ofNat (1024 * c0 + S0)) (Int32.ofNat d) a3 (Int32.ofNat c1) s = some (v, s') ∧ (v = 0 ∨ v = 1) ∧ (v = 1 ↔ ∃ c, c < nc ∧ (nx c0).testBit c = true ∧ hq_gi s0 218 (1024 * c + (S0 ||| 2 ^ c)) = -1) ∧ (∀ c S, c < nc → S < 1024 → ((nx c0).testBit c = true ∧ S0 ||| 2 ^ c = S ∧ hq_gi s0 218 (1024 * c + S) = -1 → hq_gi s' 218 (1024 * c + S) = Int32.ofNat (d + 1)) ∧ (¬ ((nx c0).testBit c = true ∧ S0 ||| 2 ^ c = S ∧ hq_gi s0 218 (1024 * c + S) = -1) → hq_gi s' 218 (1024 * c + S) = hq_gi s0 218 (1024 * c + S))) ∧ ∀ c i, ¬ c = 218 → hq_gi s' c i = hq_gi s0 c i := by
  have p10 : (2 : Nat) ^ nc ≤ 1024 := Nat.pow_le_pow_right (by omega) (show nc ≤ 10 by omega)
  have rm : hq_irem (Int32.ofNat (1024 * c0 + S0)) (1024 : Int32) = some (Int32.ofNat S0) := by
    rw [nb_lit 1024, nb_rem (by omega) (by omega) (by omega)]
    congr 2
    omega
  have dv : hq_idiv (Int32.ofNat (1024 * c0 + S0)) (1024 : Int32) = some (Int32.ofNat c0) := by
    rw [nb_lit 1024, nb_div (by omega) (by omega) (by omega)]
    congr 2
    omega
  have nl := nb_1024 hnc (hx c0)
  intro q
  induction q with
  | zero =>
    intro c1 m a3 s hc hm L k1 k2 h3 h3'
    obtain ⟨m, rfl⟩ : ∃ j, m = j + 1 := ⟨m - 1, by omega⟩
    have l0 : hq_ld s 176 14 0 = some (Int32.ofNat nc) := by rw [nb_0, nn_ld (by omega) (by omega), L.1]
    have cc : ¬ Int32.ofNat c1 < Int32.ofNat nc := by rw [nn_lt (by omega) (by omega)]; omega
    have fit : mm_rfit (mm_ret mc_X12_goesFrom) a3 = true := h3.elim (fun h => by rw [h]; exact gf_ok.1) (fun h => by rw [h]; exact gf_ok.2)
    rw [show c1 = nc by omega] at h3' k2
    exact ⟨a3, s, by simp only [f_X12_goesFrom_L5_s, f_X12_goesFrom_L5_B, l0, Option.bind_some, if_neg cc, if_pos fit], h3, h3', fun c S hc hS => ⟨fun h => (k2 c S hc hS).1 ⟨hc, h⟩, fun h => (k2 c S hc hS).2 fun z => h z.2⟩, k1⟩
  | succ q ih =>
    intro c1 m a3 s hc hm L k1 k2 h3 h3'
    obtain ⟨m, rfl⟩ : ∃ j, m = j + 1 := ⟨m - 1, by omega⟩
    have l0 : hq_ld s 176 14 0 = some (Int32.ofNat nc) := by rw [nb_0, nn_ld (by omega) (by omega), L.1]
    have cc : Int32.ofNat c1 < Int32.ofNat nc := (nn_lt (by omega) (by omega)).mpr (by omega)
    have l1 : hq_ld s 206 10 (Int32.ofNat c0) = some (Int32.ofNat (nx c0)) := by rw [nn_ld (by omega) (by omega), L.2 c0 (by omega)]
    have b0 := nb_bit0 (show nx c0 < 2147483648 by omega) (show c1 < 32 by omega)
    have So : S0 ||| 2 ^ c1 < 2 ^ nc := nb_lt_or hS0 (nb_2lt (by omega))
    have l2 : hq_ld s 218 10240 (Int32.ofNat (1024 * c1 + (S0 ||| 2 ^ c1))) = some (hq_gi s 218 (1024 * c1 + (S0 ||| 2 ^ c1))) := nn_ld (by omega) (by omega)
    have same : hq_gi s 218 (1024 * c1 + (S0 ||| 2 ^ c1)) = hq_gi s0 218 (1024 * c1 + (S0 ||| 2 ^ c1)) := (k2 c1 _ (by omega) (by omega)).2 fun z => by omega
    have ad : Int32.ofNat d + 1 = Int32.ofNat (d + 1) := nb_add d 1
    by_cases q1 : (nx c0).testBit c1 = false
    · obtain ⟨v, s', e⟩ := ih (c1 + 1) m a3 s (by omega) (by omega) L k1 (fun c S hc hS => by
        obtain ⟨g1, g2⟩ := k2 c S hc hS
        refine ⟨fun z => g1 ⟨?_, z.2⟩, fun z => g2 fun w => z ⟨by omega, w.2⟩⟩
        have : ¬ c = c1 := fun e => by have := z.2.1; rw [e, q1] at this; cases this
        omega) h3 (by
        rw [h3']
        constructor
        · rintro ⟨c, g1, g2⟩
          exact ⟨c, by omega, g2⟩
        · rintro ⟨c, g1, g2⟩
          have : ¬ c = c1 := fun e => by have := g2.1; rw [e, q1] at this; cases this
          exact ⟨c, by omega, g2⟩)
      refine ⟨v, s', ?_, e.2⟩
      rw [← e.1]
      simp only [f_X12_goesFrom_L5_s, f_X12_goesFrom_L5_B, l0, Option.bind_some, if_pos cc, rm, dv, l1, b0, if_pos q1, nn_succ]
    · have q1' : (nx c0).testBit c1 = true := by cases z : (nx c0).testBit c1 with | true => rfl | false => exact absurd z q1
      by_cases q2 : hq_gi s 218 (1024 * c1 + (S0 ||| 2 ^ c1)) = -1
      · have q2' := q2
        rw [same] at q2'
        have st : hq_st s 218 10240 (Int32.ofNat (1024 * c1 + (S0 ||| 2 ^ c1))) (Int32.ofNat (d + 1)) = some (hq_si s 218 (1024 * c1 + (S0 ||| 2 ^ c1)) (Int32.ofNat (d + 1))) := nn_st (by omega) (by omega)
        obtain ⟨v, s', e⟩ := ih (c1 + 1) m 1 (hq_si s 218 (1024 * c1 + (S0 ||| 2 ^ c1)) (Int32.ofNat (d + 1))) (by omega) (by omega) ⟨by rw [nb_ii, if_neg (fun z => by omega)]; exact L.1, fun d hd => by rw [nb_ii, if_neg (fun z => by omega)]; exact L.2 d hd⟩ (fun c i h => by rw [nb_ii, if_neg (fun z => h z.1)]; exact k1 c i h) (fun c S hc hS => by
          obtain ⟨g1, g2⟩ := k2 c S hc hS
          rw [nb_ii]
          by_cases z : c = c1 ∧ S = S0 ||| 2 ^ c1
          · rw [if_pos ⟨rfl, by rw [z.1, z.2]⟩]
            refine ⟨fun _ => rfl, fun w => absurd ⟨by omega, by rw [z.1]; exact q1', by rw [z.1, z.2], by rw [z.1, z.2]; exact q2'⟩ w⟩
          · rw [if_neg (fun w => z (by omega))]
            refine ⟨fun w => g1 ⟨?_, w.2⟩, fun w => g2 fun v => w ⟨by omega, v.2⟩⟩
            have : ¬ c = c1 := fun e => z ⟨e, by rw [← e]; exact w.2.2.1.symm⟩
            omega) (Or.inr rfl) ⟨fun _ => ⟨c1, by omega, q1', q2'⟩, fun _ => rfl⟩
        refine ⟨v, s', ?_, e.2⟩
        rw [← e.1]
        simp only [f_X12_goesFrom_L5_s, f_X12_goesFrom_L5_B, l0, Option.bind_some, if_pos cc, rm, dv, l1, b0, if_neg q1, nb_one (show c1 < 32 by omega), nb_or, nb_m1024, nb_add, l2, if_pos q2, ad, st, nn_succ]
      · have q2' : ¬ hq_gi s0 218 (1024 * c1 + (S0 ||| 2 ^ c1)) = -1 := by rw [← same]; exact q2
        obtain ⟨v, s', e⟩ := ih (c1 + 1) m a3 s (by omega) (by omega) L k1 (fun c S hc hS => by
          obtain ⟨g1, g2⟩ := k2 c S hc hS
          refine ⟨fun z => g1 ⟨?_, z.2⟩, fun z => g2 fun w => z ⟨by omega, w.2⟩⟩
          have : ¬ c = c1 := fun e => by
            have h1 := z.2.2.1
            have h2 := z.2.2.2
            rw [← h1, e] at h2
            exact q2' h2
          omega) h3 (by
          rw [h3']
          constructor
          · rintro ⟨c, g1, g2⟩
            exact ⟨c, by omega, g2⟩
          · rintro ⟨c, g1, g2⟩
            have : ¬ c = c1 := fun e => by have := g2.2; rw [e] at this; exact q2' this
            exact ⟨c, by omega, g2⟩)
        refine ⟨v, s', ?_, e.2⟩
        rw [← e.1]
        simp only [f_X12_goesFrom_L5_s, f_X12_goesFrom_L5_B, l0, Option.bind_some, if_pos cc, rm, dv, l1, b0, if_neg q1, nb_one (show c1 < 32 by omega), nb_or, nb_m1024, nb_add, l2, if_neg q2, nn_succ]
/-- level d held -/
def rl (nx : Nat → Nat) (nc a d S c : Nat) (x : Int32) : Prop := (∃ j, j ≤ d ∧ re nx nc a j S c ∧ x = Int32.ofNat j) ∨ (x = -1 ∧ rd nx nc a d S c = false)
def rl_P (nx : Nat → Nat) (nc a d k S c : Nat) : Prop := ∃ S' c', 1024 * c' + S' < k ∧ c' < nc ∧ S' ||| 2 ^ c = S ∧ re nx nc a d S' c' ∧ (nx c').testBit c = true
def rl_m (nx : Nat → Nat) (nc a d k S c : Nat) (x : Int32) : Prop := (∃ j, j ≤ d ∧ re nx nc a j S c ∧ x = Int32.ofNat j) ∨ (rd nx nc a d S c = false ∧ ((x = Int32.ofNat (d + 1) ∧ rl_P nx nc a d k S c) ∨ (x = -1 ∧ ¬ rl_P nx nc a d k S c)))
theorem ro_82 {q73 : Int32 → Int32 → Int32 → Int32 → hq_S → Option (Int32 × hq_S)} {d : Nat} {a1 : Int32} (hN : 10300 < N) (hd : d ≤ 60) (ha : a < nc) (hnc : nc ≤ 10) (hx : ∀ c, nx c < 2 ^ nc) (no : ∀ i, i < d → ∀ c, ¬ re nx nc a i (2 ^ nc - 1) c) : ∀ (q k m : Nat) (a3 : Int32) (s : hq_S), k + q = 1024 * nc → q < m → hl_R nc nx s → (∀ S c, S < 1024 → c < nc → rl_m nx nc a d k S c (hq_gi s 218 (1024 * c + S))) → (∀ c, 1024 * c + (2 ^ nc - 1) < k → ¬ re nx nc a d (2 ^ nc - 1) c) → (a3 = 0 ∨ a3 = 1) → (a3 = 1 ↔ ∃ S c, S < 1024 ∧ c < nc ∧ rd nx nc a d S c = false ∧ rl_P nx nc a d k S c) → (∃ v s', f_X12_round_L82 N q73 m a1 (Int32.ofNat (2 ^ nc - 1)) a3 (Int32.ofNat d) (Int32.ofNat k) s = some (v, s') ∧ ro_V nx nc a v) ∨ (∃ a3' s', f_X12_round_L82 N q73 m a1 (Int32.ofNat (2 ^ nc - 1)) a3 (Int32.ofNat d) (Int32.ofNat k) s = q73 a1 (Int32.ofNat (2 ^ nc - 1)) a3' (Int32.ofNat (d + 1)) s' ∧ hl_R nc nx s' ∧ (∀ S c, S < 1024 → c < nc → rl nx nc a (d + 1) S c (hq_gi s' 218 (1024 * c + S))) ∧ (∀ c, ¬ re nx nc a d (2 ^ nc - 1) c) ∧ (a3' = 0 ∨ a3' = 1) ∧ (a3' = 1 ↔ ∃ S c, re nx nc a (d + 1) S c)) := by
  have p10 : (2 : Nat) ^ nc ≤ 1024 := Nat.pow_le_pow_right (by omega) (show nc ≤ 10 by omega)
  have p0 : 0 < (2 : Nat) ^ nc := Nat.two_pow_pos nc
  intro q
  induction q with
  | zero =>
    intro k m a3 s hk hm L h1 h2 h3 h3'
    obtain ⟨m, rfl⟩ : ∃ j, m = j + 1 := ⟨m - 1, by omega⟩
    have l0 : hq_ld s 176 14 0 = some (Int32.ofNat nc) := by rw [nb_0, nn_ld (by omega) (by omega), L.1]
    have cc : ¬ Int32.ofNat k < Int32.ofNat (1024 * nc) := by rw [nn_lt (by omega) (by omega)]; omega
    have full : ∀ S c, rd nx nc a d S c = false → (rl_P nx nc a d k S c ↔ re nx nc a (d + 1) S c) := fun S c h0 => by
      rw [re_s]
      constructor
      · rintro ⟨S', c', -, g2⟩
        exact ⟨h0, S', c', g2⟩
      · rintro ⟨-, S', c', g1, g2, g3, g4⟩
        have := (rd_lt ha hx d S' c' g3.1).1
        exact ⟨S', c', by omega, g1, g2, g3, g4⟩
    refine Or.inr ⟨a3, s, by simp only [f_X12_round_L82_s, f_X12_round_L82_B, l0, Option.bind_some, nb_m1024, if_neg cc, nn_succ], L, fun S c hS hc => ?_, fun c h => ?_, h3, ?_⟩
    · rcases h1 S c hS hc with ⟨j, g1, g2, g3⟩ | ⟨g1, ⟨g2, g3⟩ | ⟨g2, g3⟩⟩
      · exact Or.inl ⟨j, by omega, g2, g3⟩
      · exact Or.inl ⟨d + 1, Nat.le_refl _, (full S c g1).mp g3, g2⟩
      · refine Or.inr ⟨g2, rd_nf fun z => g3 ((full S c g1).mpr (re_rd.mpr ⟨g1, z⟩))⟩
    · have := (rd_lt ha hx d _ c h.1).2
      exact h2 c (by omega) h
    · rw [h3']
      constructor
      · rintro ⟨S, c, -, -, g1, g2⟩
        exact ⟨S, c, (full S c g1).mp g2⟩
      · rintro ⟨S, c, g⟩
        have g1 := rd_lt ha hx _ S c g.1
        have g2 := (re_rd.mp g).1
        exact ⟨S, c, by omega, g1.2, g2, (full S c g2).mpr g⟩
  | succ q ih =>
    intro k m a3 s hk hm L h1 h2 h3 h3'
    obtain ⟨m, rfl⟩ : ∃ j, m = j + 1 := ⟨m - 1, by omega⟩
    have l0 : hq_ld s 176 14 0 = some (Int32.ofNat nc) := by rw [nb_0, nn_ld (by omega) (by omega), L.1]
    have cc : Int32.ofNat k < Int32.ofNat (1024 * nc) := (nn_lt (by omega) (by omega)).mpr (by omega)
    have l1 : hq_ld s 218 10240 (Int32.ofNat k) = some (hq_gi s 218 k) := nn_ld (by omega) (by omega)
    obtain ⟨c0, S0, hc0, hS0, ek⟩ : ∃ c0 S0, c0 < nc ∧ S0 < 1024 ∧ k = 1024 * c0 + S0 := ⟨k / 1024, k % 1024, by omega, by omega, by omega⟩
    have m0 := h1 S0 c0 hS0 hc0
    rw [← ek] at m0
    have test : hq_gi s 218 k = Int32.ofNat d ↔ re nx nc a d S0 c0 := by
      rcases m0 with ⟨j, g1, g2, g3⟩ | ⟨g1, g2⟩
      · rw [g3, nn_inj (by omega) (by omega)]
        exact ⟨fun e => e ▸ g2, fun e => re_eq g2 e⟩
      · constructor
        · intro e
          rcases g2 with ⟨g2, -⟩ | ⟨g2, -⟩
          · rw [g2, nn_inj (by omega) (by omega)] at e
            omega
          · rw [g2] at e
            exact absurd e.symm (sw_m1n (by omega))
        · intro e
          rw [e.1] at g1; cases g1
    have P1 : ∀ S c, rl_P nx nc a d (k + 1) S c ↔ (rl_P nx nc a d k S c ∨ (S0 ||| 2 ^ c = S ∧ re nx nc a d S0 c0 ∧ (nx c0).testBit c = true)) := fun S c => by
      constructor
      · rintro ⟨S', c', g1, g2, g3, g4, g5⟩
        by_cases e : 1024 * c' + S' < k
        · exact Or.inl ⟨S', c', e, g2, g3, g4, g5⟩
        · have g6 := (rd_lt ha hx d S' c' g4.1).1
          have e1 : c' = c0 := by omega
          have e2 : S' = S0 := by omega
          rw [e1] at g4 g5
          rw [e2] at g3 g4
          exact Or.inr ⟨g3, g4, g5⟩
      · rintro (⟨S', c', g1, g2⟩ | ⟨g1, g2, g3⟩)
        · exact ⟨S', c', by omega, g2⟩
        · exact ⟨S0, c0, by omega, hc0, g1, g2, g3⟩
    by_cases q1 : hq_gi s 218 k = Int32.ofNat d
    · have r0 := test.mp q1
      have hS0' := (rd_lt ha hx d S0 c0 r0.1).1
      have rm : hq_irem (Int32.ofNat k) (1024 : Int32) = some (Int32.ofNat S0) := by
        rw [nb_lit 1024, nb_rem (by omega) (by omega) (by omega)]
        congr 2
        omega
      have ea : (Int32.ofNat S0 = Int32.ofNat (2 ^ nc - 1)) = (S0 = 2 ^ nc - 1) := nb_eq (by omega) (by omega)
      by_cases q2 : S0 = 2 ^ nc - 1
      · refine Or.inl ⟨Int32.ofNat d, s, by simp only [f_X12_round_L82_s, f_X12_round_L82_B, l0, l1, Option.bind_some, nb_m1024, if_pos cc, if_pos q1, rm, ea, if_pos q2], Or.inl ⟨d, c0, re_54 ha hnc hx r0, rfl, by rw [← q2]; exact r0, no⟩⟩
      · obtain ⟨v, s1, f1, f2, f3, f4, f5⟩ := gf_5 (N := N) (c0 := c0) (S0 := S0) (d := d) (s0 := s) hnc hx hc0 hS0' nc 0 N 0 s (by omega) (by omega) L (fun _ _ _ => rfl) (fun c S hc hS => ⟨fun h => by omega, fun _ => rfl⟩) (Or.inl rfl) ⟨fun h => absurd h (by decide), fun ⟨c, h, _⟩ => by omega⟩
        have f1 : f_X12_goesFrom N (Int32.ofNat k) (Int32.ofNat d) s = some (v, s1) := by rw [ek]; exact f1
        have o6 : (a3 ||| v = 0 ∨ a3 ||| v = 1) ∧ (a3 ||| v = 1 ↔ (a3 = 1 ∨ v = 1)) := by
          rcases h3 with rfl | rfl <;> rcases f2 with rfl | rfl <;> decide
        have st : f_X12_round_L82 N q73 (m + 1) a1 (Int32.ofNat (2 ^ nc - 1)) a3 (Int32.ofNat d) (Int32.ofNat k) s = f_X12_round_L82 N q73 m a1 (Int32.ofNat (2 ^ nc - 1)) (a3 ||| v) (Int32.ofNat d) (Int32.ofNat (k + 1)) s1 := by
          simp only [f_X12_round_L82_s, f_X12_round_L82_B, f_X12_round_J136, l0, l1, Option.bind_some, nb_m1024, if_pos cc, if_pos q1, rm, ea, if_neg q2, f1, nn_succ]
        rw [st]
        refine ih (k + 1) m (a3 ||| v) s1 (by omega) (by omega) ⟨by rw [f5 _ _ (by omega)]; exact L.1, fun d hd => by rw [f5 _ _ (by omega)]; exact L.2 d hd⟩ (fun S c hS hc => ?_) (fun c hc h => ?_) o6.1 ?_
        · obtain ⟨g1, g2⟩ := f4 c S hc hS
          rcases h1 S c hS hc with ⟨j, k1, k2, k3⟩ | ⟨k1, ⟨k2, k3⟩ | ⟨k2, k3⟩⟩
          · rw [g2 (fun z => by have := z.2.2; rw [k3] at this; exact sw_m1n (by omega) this)]
            exact Or.inl ⟨j, k1, k2, k3⟩
          · rw [g2 (fun z => by have := z.2.2; rw [k2] at this; exact sw_m1n (by omega) this)]
            exact Or.inr ⟨k1, Or.inl ⟨k2, (P1 S c).mpr (Or.inl k3)⟩⟩
          · by_cases z : (nx c0).testBit c = true ∧ S0 ||| 2 ^ c = S
            · rw [g1 ⟨z.1, z.2, k2⟩]
              exact Or.inr ⟨k1, Or.inl ⟨rfl, (P1 S c).mpr (Or.inr ⟨z.2, r0, z.1⟩)⟩⟩
            · rw [g2 (fun w => z ⟨w.1, w.2.1⟩)]
              exact Or.inr ⟨k1, Or.inr ⟨k2, fun w => ((P1 S c).mp w).elim k3 fun w => z ⟨w.2.2, w.1⟩⟩⟩
        · by_cases e : 1024 * c + (2 ^ nc - 1) < k
          · exact h2 c e h
          · exact q2 (by omega)
        · rw [o6.2, h3', f3]
          constructor
          · rintro (⟨S, c, g1, g2, g3, g4⟩ | ⟨c, g1, g2, g3⟩)
            · exact ⟨S, c, g1, g2, g3, (P1 S c).mpr (Or.inl g4)⟩
            · have lt : S0 ||| 2 ^ c < 2 ^ nc := nb_lt_or hS0' (nb_2lt g1)
              refine ⟨S0 ||| 2 ^ c, c, by omega, g1, ?_, (P1 _ c).mpr (Or.inr ⟨rfl, r0, g2⟩)⟩
              rcases h1 (S0 ||| 2 ^ c) c (by omega) g1 with ⟨j, k1, k2, k3⟩ | ⟨k1, -⟩
              · rw [k3] at g3
                exact absurd g3 (sw_m1n (by omega))
              · exact k1
          · rintro ⟨S, c, g1, g2, g3, g4⟩
            by_cases z : rl_P nx nc a d k S c
            · exact Or.inl ⟨S, c, g1, g2, g3, z⟩
            · rcases (P1 S c).mp g4 with w | ⟨w1, w2, w3⟩
              · exact absurd w z
              · refine Or.inr ⟨c, g2, w3, ?_⟩
                rw [w1]
                rcases h1 S c g1 g2 with ⟨j, k1, k2, k3⟩ | ⟨-, ⟨-, k3⟩ | ⟨k2, -⟩⟩
                · rw [rd_le k1 k2.1] at g3; cases g3
                · exact absurd k3 z
                · exact k2
    · have nr : ¬ re nx nc a d S0 c0 := fun z => q1 (test.mpr z)
      have P2 : ∀ S c, rl_P nx nc a d (k + 1) S c ↔ rl_P nx nc a d k S c := fun S c => ⟨fun h => ((P1 S c).mp h).elim id fun z => absurd z.2.1 nr, fun h => (P1 S c).mpr (Or.inl h)⟩
      have st : f_X12_round_L82 N q73 (m + 1) a1 (Int32.ofNat (2 ^ nc - 1)) a3 (Int32.ofNat d) (Int32.ofNat k) s = f_X12_round_L82 N q73 m a1 (Int32.ofNat (2 ^ nc - 1)) a3 (Int32.ofNat d) (Int32.ofNat (k + 1)) s := by
        simp only [f_X12_round_L82_s, f_X12_round_L82_B, f_X12_round_J136, l0, l1, Option.bind_some, nb_m1024, if_pos cc, if_neg q1, nn_succ]
      rw [st]
      refine ih (k + 1) m a3 s (by omega) (by omega) L (fun S c hS hc => ?_) (fun c hc h => ?_) h3 ?_
      · have := h1 S c hS hc
        unfold rl_m at this ⊢
        rw [P2]
        exact this
      · by_cases e : 1024 * c + (2 ^ nc - 1) < k
        · exact h2 c e h
        · have e1 : c = c0 := by omega
          have e2 : 2 ^ nc - 1 = S0 := by omega
          rw [e1, e2] at h
          exact nr h
      · rw [h3']
        exact ⟨fun ⟨S, c, g1, g2, g3, g4⟩ => ⟨S, c, g1, g2, g3, (P2 S c).mpr g4⟩, fun ⟨S, c, g1, g2, g3, g4⟩ => ⟨S, c, g1, g2, g3, (P2 S c).mp g4⟩⟩
theorem ro_73 {a1 : Int32} (hN : 10300 < N) (ha : a < nc) (hnc : nc ≤ 10) (hx : ∀ c, nx c < 2 ^ nc) : ∀ (q d m : Nat) (s : hq_S), d + q = 56 → q + 1 < m → hl_R nc nx s → (∀ S c, S < 1024 → c < nc → rl nx nc a d S c (hq_gi s 218 (1024 * c + S))) → (∀ i, i < d → ∀ c, ¬ re nx nc a i (2 ^ nc - 1) c) → (∃ S c, re nx nc a d S c) → ∃ v s', f_X12_round_L73 N m a1 (Int32.ofNat (2 ^ nc - 1)) 1 (Int32.ofNat d) s = some (v, s') ∧ ro_V nx nc a v := by
  have d10 : ¬ (1 : Int32) = 0 := by decide
  intro q
  induction q with
  | zero =>
    intro d m s hd hm L h no ⟨S, c, hr⟩
    have := re_54 ha hnc hx hr
    omega
  | succ q ih =>
    intro d m s hd hm L h no hr
    obtain ⟨m, rfl⟩ : ∃ j, m = j + 1 := ⟨m - 1, by omega⟩
    have w := ro_82 (N := N) (q73 := f_X12_round_L73 N m) (d := d) (a1 := a1) hN (by omega) ha hnc hx no (1024 * nc) 0 N 0 s (by omega) (by omega) L (fun S c hS hc => by
      rcases h S c hS hc with g | ⟨g1, g2⟩
      · exact Or.inl g
      · exact Or.inr ⟨g2, Or.inr ⟨g1, fun ⟨S', c', g, _⟩ => by omega⟩⟩) (fun c hc => by omega) (Or.inl rfl) ⟨fun h => absurd h (by decide), fun ⟨S, c, _, _, _, S', c', g, _⟩ => by omega⟩
    have st : f_X12_round_L73 N (m + 1) a1 (Int32.ofNat (2 ^ nc - 1)) 1 (Int32.ofNat d) s = f_X12_round_L82 N (f_X12_round_L73 N m) N a1 (Int32.ofNat (2 ^ nc - 1)) 0 (Int32.ofNat d) (Int32.ofNat 0) s := by
      rw [f_X12_round_L73_s]
      simp only [f_X12_round_L73_B, if_neg d10]
      rfl
    rw [st]
    rcases w with w | ⟨a3', s', e1, e2, e3, e4, e5, e6⟩
    · exact w
    · have no2 : ∀ i, i < d + 1 → ∀ c, ¬ re nx nc a i (2 ^ nc - 1) c := fun i hi c => by
        by_cases e : i = d
        · rw [e]; exact e4 c
        · exact no i (by omega) c
      rw [e1]
      rcases e5 with rfl | rfl
      · obtain ⟨m, rfl⟩ : ∃ j, m = j + 1 := ⟨m - 1, by omega⟩
        have none : ∀ S c, ¬ re nx nc a (d + 1) S c := fun S c h => absurd (e6.mpr ⟨S, c, h⟩) (by decide)
        refine ⟨-2, s', by simp only [f_X12_round_L73_s, f_X12_round_L73_B, if_true], Or.inr ⟨rfl, fun i c => ?_⟩⟩
        by_cases z : i < d + 1
        · exact no2 i z c
        · exact re_none none i (by omega) _ c
      · exact ih (d + 1) m s' (by omega) (by omega) e2 e3 no2 (e6.mp rfl)
theorem ro_33 {a1 a2 : Int32} (hN : 10300 < N) : ∀ (q j m : Nat) (s : hq_S), j + q = 10240 → q < m → (∀ i, i < j → hq_gi s 218 i = -1) → ∃ s', f_X12_round_L33 N m a1 a2 (Int32.ofNat j) s = (hq_st s' 218 10240 (((1024 : Int32) * a1) + ((1 : Int32) <<< (a1 &&& 31))) (0 : Int32)).bind (fun s7 => f_X12_round_L73 N N a1 a2 (1 : Int32) (0 : Int32) s7) ∧ (∀ i, i < 10240 → hq_gi s' 218 i = -1) ∧ ∀ c i, ¬ c = 218 → hq_gi s' c i = hq_gi s c i := by
  intro q
  induction q with
  | zero =>
    intro j m s hj hm h
    obtain ⟨m, rfl⟩ : ∃ j, m = j + 1 := ⟨m - 1, by omega⟩
    have c : ¬ Int32.ofNat j < (10240 : Int32) := by rw [nb_lit 10240, nn_lt (by omega) (by omega)]; omega
    exact ⟨s, by simp only [f_X12_round_L33_s, f_X12_round_L33_B, if_neg c], fun i hi => h i (by omega), fun _ _ _ => rfl⟩
  | succ q ih =>
    intro j m s hj hm h
    obtain ⟨m, rfl⟩ : ∃ j, m = j + 1 := ⟨m - 1, by omega⟩
    have c : Int32.ofNat j < (10240 : Int32) := by rw [nb_lit 10240, nn_lt (by omega) (by omega)]; omega
    have st : hq_st s 218 10240 (Int32.ofNat j) (-1) = some (hq_si s 218 j (-1)) := nn_st (by omega) (by omega)
    obtain ⟨s', e1, e2, e3⟩ := ih (j + 1) m (hq_si s 218 j (-1)) (by omega) (by omega) (fun i hi => by
      rw [nb_ii]
      by_cases z : i = j
      · rw [if_pos ⟨rfl, z⟩]
      · rw [if_neg (fun w => z w.2)]; exact h i (by omega))
    refine ⟨s', ?_, e2, fun c i h => (e3 c i h).trans (by rw [nb_ii, if_neg (fun z => h z.1)])⟩
    rw [← e1]
    simp only [f_X12_round_L33_s, f_X12_round_L33_B, if_pos c, st, Option.bind_some, nn_succ]
theorem ro_uq {v w : Int32} (h1 : ro_V nx nc a v) (h2 : ro_V nx nc a w) : v = w := by
  rcases h1 with ⟨d, c, -, e1, r1, n1⟩ | ⟨e1, n1⟩ <;> rcases h2 with ⟨d', c', -, e2, r2, n2⟩ | ⟨e2, n2⟩
  · have : d = d' := by
      by_cases p : d < d'
      · exact absurd r1 (n2 d p c)
      · by_cases q : d' < d
        · exact absurd r2 (n1 d' q c')
        · omega
    rw [e1, e2, this]
  · exact absurd r1 (n2 d c)
  · exact absurd r2 (n1 d' c')
  · rw [e1, e2]
theorem hs_op_29 (hc : hc_loc HC) (hN : 10300 < N) (a1 : Int32) : hq_Sim (hR HC) (f_X11_round N a1) (f_X12_round N a1) := fun sx sm R => by
  have R2 := hR_th hc (x := 0) R
  obtain ⟨nc, nl, ng, nt, t, bar, fr, to, on, TT⟩ := R.2.2.2.2.2
  obtain ⟨I, T⟩ := hT_th 0 R.2.2.1 TT
  obtain ⟨sl, l1, lR, -, -⟩ := hp_lays (N := N) (by omega) I T
  obtain ⟨⟨t1, t2, t3⟩, ⟨⟨b1, b2, b3, b4⟩, ⟨c1, c2, -⟩, -⟩, ⟨X, M, S, F, B, Bl⟩, -⟩ := T
  have d10 : ¬ (1 : Int32) = 0 := by decide
  have hx := ly_nx_lt (fr := fr) (to := to) (on := on) (bar := bar) (both := false) (nc := nc) (n := nl) fun k hk => ⟨(M.2.2.2.2 k hk).1, (M.2.2.2.2 k hk).2.1⟩
  rcases hs_isCorner (N := N) (a := a1) (by omega) t1 t2 c1 c2 with ⟨a, ha, rfl, e1, e2⟩ | ⟨e1, e2⟩
  · obtain ⟨v, sx', x1, x2, x3, x4⟩ := ro_X (N := N) (by omega) ha b1 hx S
    have l0 : hq_ld sl 176 14 0 = some (Int32.ofNat nc) := by rw [nb_0, nn_ld (by omega) (by omega), lR.1]
    have onM : ((1 : Int32) <<< (Int32.ofNat nc &&& 31)) - 1 = Int32.ofNat (2 ^ nc - 1) := by rw [nb_one (by omega), nb_lit 1, nb_sub (Nat.two_pow_pos nc)]
    obtain ⟨s1, f1, f2, f3⟩ := ro_33 (N := N) (a1 := Int32.ofNat a) (a2 := Int32.ofNat (2 ^ nc - 1)) hN 10240 0 N sl (by omega) (by omega) (fun i hi => by omega)
    have f1 : f_X12_round_L33 N N (Int32.ofNat a) (Int32.ofNat (2 ^ nc - 1)) 0 sl = _ := f1
    have p2 : (2 : Nat) ^ a < 1024 := nb_1024 b1 (nb_2lt ha)
    have st : hq_st s1 218 10240 (((1024 : Int32) * Int32.ofNat a) + ((1 : Int32) <<< (Int32.ofNat a &&& 31))) 0 = some (hq_si s1 218 (1024 * a + 2 ^ a) 0) := by
      rw [nb_one (by omega), nb_m1024, nb_add]
      exact nn_st (by omega) (by omega)
    obtain ⟨w, sm', g1, g2⟩ := ro_73 (N := N) (a := a) (a1 := Int32.ofNat a) hN ha b1 hx 56 0 N (hq_si s1 218 (1024 * a + 2 ^ a) 0) (by omega) (by omega) ⟨by rw [nb_ii, if_neg (fun z => by omega), f3 _ _ (by omega)]; exact lR.1, fun d hd => by rw [nb_ii, if_neg (fun z => by omega), f3 _ _ (by omega)]; exact lR.2 d hd⟩ (fun S c hS hc => by
      have r0 : rd (ly_nx fr to on bar false nl) nc a 0 S c = true ↔ (S = 2 ^ a ∧ c = a) := by rw [rd, Bool.and_eq_true, decide_eq_true_iff, decide_eq_true_iff]
      rw [nb_ii]
      by_cases z : S = 2 ^ a ∧ c = a
      · rw [if_pos ⟨rfl, by rw [z.1, z.2]⟩]
        exact Or.inl ⟨0, Nat.le_refl _, ⟨r0.mpr z, fun i hi => by omega⟩, rfl⟩
      · have cd : ∀ P : Nat, P < 1024 → 1024 * c + S = 1024 * a + P → S = P ∧ c = a := fun P h1 h2 => by omega
        rw [if_neg (fun w => z (cd (2 ^ a) p2 w.2)), f2 _ (by omega)]
        exact Or.inr ⟨rfl, rd_nf fun w => z (r0.mp w)⟩) (fun i hi => by omega) ⟨2 ^ a, a, by rw [rd, decide_eq_true rfl, decide_eq_true rfl]; rfl, fun i hi => by omega⟩
    have g1 : f_X12_round_L73 N N (Int32.ofNat a) (Int32.ofNat (2 ^ nc - 1)) 1 0 (hq_si s1 218 (1024 * a + 2 ^ a) 0) = some (w, sm') := g1
    have vw := ro_uq x2 g2
    subst vw
    have ex : f_X11_round N (Int32.ofNat a) sx = some (v, sx') := by simp only [f_X11_round, e1, Option.bind_some, if_neg d10, x1]
    have em : f_X12_round N (Int32.ofNat a) sm = some (v, sm') := by simp only [f_X12_round, nn_pi, e2, Option.bind_some, if_neg d10, l1, l0, onM, f1, st, g1]
    have km := f_X12_round_fw em
    refine ⟨v, sx', sm', ex, em, hR_k hc (fun k i hk => ⟨x3 k i ?_ ?_ ?_, ?_, ?_⟩) (km.kp (by decide)) (hm_o_fc (by decide) km) R⟩
    · rintro rfl
      rw [show hq_ind hd_X 160 i = false from rfl] at hk
      cases hk
    · rintro rfl
      rw [show hq_ind hd_X 161 i = false from rfl] at hk
      cases hk
    · rintro rfl
      rw [show hq_ind hd_X 162 i = false from rfl] at hk
      cases hk
    · show sx'.2.1 k i = sx.2.1 k i
      rw [x4]
    · show sx'.2.2 k i = sx.2.2 k i
      rw [x4]
  · exact ⟨-1, sx, hq_si sm 174 0 0, by simp only [f_X11_round, e1, Option.bind_some, if_true], by simp only [f_X12_round, nn_pi, e2, Option.bind_some, if_true], R2⟩
end
