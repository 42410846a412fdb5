/-! THE CLASS'S NIGHTS -/
section
variable {N nc n : Nat} {mv : Nat → Nat}
/-- some rest before r, by which it is swept just a night after it -/
def sw_W (mv : Nat → Nat) (n k r S : Nat) : Prop := ∃ R, R < r ∧ nb_su R S ∧ nb_pop (nb_df S R) 20 ≤ n ∧ se mv n k (mv R)
def sw_mid (mv : Nat → Nat) (n k r S : Nat) (x : Int32) : Prop := (∃ j, j ≤ k ∧ se mv n j S ∧ x = Int32.ofNat j) ∨ (sw mv n k S = false ∧ ((x = Int32.ofNat (k + 1) ∧ sw_W mv n k r S) ∨ (x = -1 ∧ ¬ sw_W mv n k r S)))
theorem sw_WW {k M S : Nat} (hS : S < M) (h : sw mv n k S = false) : sw_W mv n k M S ↔ sw mv n (k + 1) S = true := by
  constructor
  · rintro ⟨R, h1, h2, h3, h4⟩
    exact sw_s.mpr (Or.inr ⟨R, h2, h3, h4.1⟩)
  · intro h1
    rcases sw_s.mp h1 with h2 | ⟨R, h2, h3, h4⟩
    · rw [h] at h2; cases h2
    · refine ⟨R, by have := nb_su_le h2; omega, h2, h3, h4, fun i hi => sw_nf fun z => ?_⟩
      have h5 : sw mv n (i + 1) S = true := sw_s.mpr (Or.inr ⟨R, h2, h3, z⟩)
      rw [sw_le (show i + 1 ≤ k by omega) h5] at h
      cases h
theorem sw_m1n {j : Nat} (hj : j < 2147483648) : ¬ Int32.ofNat j = -1 := fun e => nn_nlt0 (a := j) hj (by rw [e]; decide)
theorem sw_71 {q44 : Nat → Int32 → Int32 → Int32 → Int32 → hq_S → Option (Int32 × hq_S)} {k : Nat} (hN : 1100 < N) (hnc : nc ≤ 10) (hn : n ≤ 10) (hk : k < 1100) (hm : ∀ S, S < 2 ^ nc → mv S < 2 ^ nc) : ∀ (q r m : Nat) (a6 : Int32) (s : hq_S), r + q = 2 ^ nc → q < m → (∀ S, S < 2 ^ nc → hq_gi s 160 S = Int32.ofNat (mv S)) → (∀ S, S < 2 ^ nc → sw_mid mv n k r S (hq_gi s 161 S)) → (a6 = 0 ∨ a6 = 1) → (a6 = 1 ↔ ∃ S, S < 2 ^ nc ∧ sw mv n k S = false ∧ sw_W mv n k r S) → ∃ a6' s', f_X7_nightsToSweep_L71 N q44 m 103 (Int32.ofNat n) (Int32.ofNat (2 ^ nc - 1)) a6 (Int32.ofNat (k + 1)) (Int32.ofNat r) s = q44 103 (Int32.ofNat n) (Int32.ofNat (2 ^ nc - 1)) a6' (Int32.ofNat (k + 2)) s' ∧ (∀ S, S < 2 ^ nc → sv mv n (k + 1) S (hq_gi s' 161 S)) ∧ (∀ c i, ¬ c = 161 → hq_gi s' c i = hq_gi s c i) ∧ (a6' = 0 ∨ a6' = 1) ∧ (a6' = 1 ↔ ∃ S, S < 2 ^ nc ∧ sw mv n k S = false ∧ sw mv n (k + 1) S = true) := by
  have p10 : (2 : Nat) ^ nc ≤ 1024 := Nat.pow_le_pow_right (by omega) (show nc ≤ 10 by omega)
  have p0 : 0 < (2 : Nat) ^ nc := Nat.two_pow_pos nc
  intro q
  induction q with
  | zero =>
    intro r m a6 s hr hm' h160 h161 h6 h6'
    obtain ⟨m, rfl⟩ : ∃ j, m = j + 1 := ⟨m - 1, by omega⟩
    have hr : r = 2 ^ nc := by omega
    have c : Int32.ofNat (2 ^ nc - 1) < Int32.ofNat r := (nn_lt (by omega) (by omega)).mpr (by omega)
    refine ⟨a6, s, by simp only [f_X7_nightsToSweep_L71_s, f_X7_nightsToSweep_L71_B, if_pos c, nn_succ], fun S hS => ?_, fun _ _ _ => rfl, h6, ?_⟩
    · rcases h161 S hS with ⟨j, h1, h2, h3⟩ | ⟨h1, ⟨h2, h3⟩ | ⟨h2, h3⟩⟩
      · exact Or.inl ⟨j, by omega, h2, h3⟩
      · rw [hr] at h3
        have h4 := (sw_WW hS h1).mp h3
        exact Or.inl ⟨k + 1, Nat.le_refl _, ⟨h4, fun i hi => sw_nf fun z => by rw [sw_le (show i ≤ k by omega) z] at h1; cases h1⟩, h2⟩
      · rw [hr] at h3
        exact Or.inr ⟨h2, sw_nf fun z => h3 ((sw_WW hS h1).mpr z)⟩
    · rw [h6', hr]
      constructor
      · rintro ⟨S, h1, h2, h3⟩
        exact ⟨S, h1, h2, (sw_WW h1 h2).mp h3⟩
      · rintro ⟨S, h1, h2, h3⟩
        exact ⟨S, h1, h2, (sw_WW h1 h2).mpr h3⟩
  | succ q ih =>
    intro r m a6 s hr hm' h160 h161 h6 h6'
    obtain ⟨m, rfl⟩ : ∃ j, m = j + 1 := ⟨m - 1, by omega⟩
    have c : ¬ Int32.ofNat (2 ^ nc - 1) < Int32.ofNat r := by rw [nn_lt (by omega) (by omega)]; omega
    have rl : r < 2 ^ nc := by omega
    have ml := hm r rl
    have l1 : hq_ld s 160 1024 (Int32.ofNat r) = some (Int32.ofNat (mv r)) := by rw [nn_ld (by omega) (by omega), h160 r rl]
    have l2 : hq_ld s 161 1024 (Int32.ofNat (mv r)) = some (hq_gi s 161 (mv r)) := nn_ld (by omega) (by omega)
    have pr : Int32.ofNat (k + 1) - 1 = Int32.ofNat k := nn_pred k
    have test : hq_gi s 161 (mv r) = Int32.ofNat k ↔ se mv n k (mv r) := by
      rcases h161 (mv r) ml with ⟨j, h1, h2, h3⟩ | ⟨h1, h2⟩
      · rw [h3, nn_inj (by omega) (by omega)]
        exact ⟨fun e => e ▸ h2, fun e => se_eq h2 e⟩
      · constructor
        · intro e
          rcases h2 with ⟨h2, -⟩ | ⟨h2, -⟩
          · rw [h2, nn_inj (by omega) (by omega)] at e
            omega
          · rw [h2] at e
            exact absurd e.symm (sw_m1n (by omega))
        · intro e
          rw [e.1] at h1; cases h1
    have W1 : ∀ S, sw_W mv n k (r + 1) S ↔ (sw_W mv n k r S ∨ (nb_su r S ∧ nb_pop (nb_df S r) 20 ≤ n ∧ se mv n k (mv r))) := fun S => by
      constructor
      · rintro ⟨R, h1, h2⟩
        by_cases e : R = r
        · rw [e] at h2; exact Or.inr h2
        · exact Or.inl ⟨R, by omega, h2⟩
      · rintro (⟨R, h1, h2⟩ | h)
        · exact ⟨R, by omega, h2⟩
        · exact ⟨r, by omega, h⟩
    by_cases q1 : hq_gi s 161 (mv r) = Int32.ofNat k
    · have q1' := test.mp q1
      obtain ⟨v, s1, f1, f2, f3, f4, f5, f6⟩ := sa_all (N := N) (nc := nc) (n := n) (r := r) (nt := k + 1) (s := s) hN hnc hn rl
      have o6 : (a6 ||| v = 0 ∨ a6 ||| v = 1) ∧ (a6 ||| v = 1 ↔ (a6 = 1 ∨ v = 1)) := by
        rcases h6 with rfl | rfl <;> rcases f2 with rfl | rfl <;> decide
      have mid1 : ∀ S, S < 2 ^ nc → sw_mid mv n k (r + 1) S (hq_gi s1 161 S) := fun S hS => by
        rcases h161 S hS with ⟨j, h1, h2, h3⟩ | ⟨h1, ⟨h2, h3⟩ | ⟨h2, h3⟩⟩
        · rw [f5 S (fun z => by have := z.2.2.1; rw [h3] at this; exact sw_m1n (by omega) this)]
          exact Or.inl ⟨j, h1, h2, h3⟩
        · rw [f5 S (fun z => by have := z.2.2.1; rw [h2] at this; exact sw_m1n (by omega) this)]
          exact Or.inr ⟨h1, Or.inl ⟨h2, (W1 S).mpr (Or.inl h3)⟩⟩
        · by_cases z : nb_su r S ∧ nb_pop (nb_df S r) 20 ≤ n
          · rw [f4 S hS z.1 h2 z.2]
            exact Or.inr ⟨h1, Or.inl ⟨rfl, (W1 S).mpr (Or.inr ⟨z.1, z.2, q1'⟩)⟩⟩
          · rw [f5 S (fun w => z ⟨w.2.1, w.2.2.2⟩)]
            exact Or.inr ⟨h1, Or.inr ⟨h2, fun w => ((W1 S).mp w).elim h3 fun w => z ⟨w.1, w.2.1⟩⟩⟩
      obtain ⟨a6', s', g1, g2, g3, g4, g5⟩ := ih (r + 1) m (a6 ||| v) s1 (by omega) (by omega) (fun S hS => by rw [f6 _ _ (by omega)]; exact h160 S hS) mid1 o6.1 (by
        rw [o6.2, h6', f3]
        constructor
        · rintro (⟨S, h1, h2, h3⟩ | ⟨S, h1, h2, h3, h4⟩)
          · exact ⟨S, h1, h2, (W1 S).mpr (Or.inl h3)⟩
          · rcases h161 S h1 with ⟨j, k1, k2, k3⟩ | ⟨k1, -⟩
            · rw [k3] at h3
              exact absurd h3 (sw_m1n (by omega))
            · exact ⟨S, h1, k1, (W1 S).mpr (Or.inr ⟨h2, h4, q1'⟩)⟩
        · rintro ⟨S, h1, h2, h3⟩
          by_cases z : sw_W mv n k r S
          · exact Or.inl ⟨S, h1, h2, z⟩
          · rcases (W1 S).mp h3 with h3 | h3
            · exact absurd h3 z
            · refine Or.inr ⟨S, h1, h3.1, ?_, h3.2.1⟩
              rcases h161 S h1 with ⟨j, k1, k2, k3⟩ | ⟨k1, ⟨-, k3⟩ | ⟨k2, -⟩⟩
              · rw [sw_le k1 k2.1] at h2; cases h2
              · exact absurd k3 z
              · exact k2)
      refine ⟨a6', s', ?_, g2, fun c i h => (g3 c i h).trans (f6 c i h), g4, g5⟩
      rw [← g1]
      simp only [f_X7_nightsToSweep_L71_s, f_X7_nightsToSweep_L71_B, if_neg c, l1, l2, Option.bind_some, pr, if_pos q1, f1, nn_succ]
    · have q1' : ¬ se mv n k (mv r) := fun z => q1 (test.mpr z)
      have W2 : ∀ S, sw_W mv n k (r + 1) S ↔ sw_W mv n k r S := fun S => ⟨fun h => ((W1 S).mp h).elim id fun z => absurd z.2.2 q1', fun h => (W1 S).mpr (Or.inl h)⟩
      obtain ⟨a6', s', g1, g2, g3, g4, g5⟩ := ih (r + 1) m a6 s (by omega) (by omega) h160 (fun S hS => by
        have := h161 S hS
        unfold sw_mid at this ⊢
        rw [W2]
        exact this) h6 (by rw [h6']; exact ⟨fun ⟨S, h1, h2, h3⟩ => ⟨S, h1, h2, (W2 S).mpr h3⟩, fun ⟨S, h1, h2, h3⟩ => ⟨S, h1, h2, (W2 S).mp h3⟩⟩)
      refine ⟨a6', s', ?_, g2, g3, g4, g5⟩
      rw [← g1]
      simp only [f_X7_nightsToSweep_L71_s, f_X7_nightsToSweep_L71_B, if_neg c, l1, l2, Option.bind_some, pr, if_neg q1, nn_succ]
theorem sw_J {k : Nat} {a6 a7 : Int32} {s : hq_S} (hnc : nc ≤ 10) (hk : k < 1100) (h161 : ∀ S, S < 2 ^ nc → sv mv n k S (hq_gi s 161 S)) : ∃ v, f_X7_nightsToSweep_J119 N 103 (Int32.ofNat n) (Int32.ofNat (2 ^ nc - 1)) a6 a7 s = some (v, s) ∧ ((∃ j, j ≤ k ∧ se mv n j (2 ^ nc - 1) ∧ v = Int32.ofNat j) ∨ (v = -2 ∧ sw mv n k (2 ^ nc - 1) = false)) := by
  have p10 : (2 : Nat) ^ nc ≤ 1024 := Nat.pow_le_pow_right (by omega) (show nc ≤ 10 by omega)
  have p0 : 0 < (2 : Nat) ^ nc := Nat.two_pow_pos nc
  have ld : hq_ld s 161 1024 (Int32.ofNat (2 ^ nc - 1)) = some (hq_gi s 161 (2 ^ nc - 1)) := nn_ld (by omega) (by omega)
  have h := h161 (2 ^ nc - 1) (by omega)
  rcases h with ⟨j, h1, h2, h3⟩ | ⟨h1, h2⟩
  · have m1 : ¬ Int32.ofNat j = -1 := sw_m1n (by omega)
    exact ⟨Int32.ofNat j, by simp only [f_X7_nightsToSweep_J119, ld, h3, Option.bind_some, if_neg m1], Or.inl ⟨j, h1, h2, rfl⟩⟩
  · exact ⟨-2, by simp only [f_X7_nightsToSweep_J119, ld, h1, Option.bind_some, if_true], Or.inr ⟨rfl, h2⟩⟩
theorem sw_44 (hN : 1100 < N) (hnc : nc ≤ 10) (hn : n ≤ 10) (hm : ∀ S, S < 2 ^ nc → mv S < 2 ^ nc) : ∀ (q k m : Nat) (s : hq_S), k + q = 1025 → q + 1 < m → (∀ S, S < 2 ^ nc → hq_gi s 160 S = Int32.ofNat (mv S)) → (∀ S, S < 2 ^ nc → sv mv n k S (hq_gi s 161 S)) → k + 1 ≤ cn (sw mv n k) (2 ^ nc) → ∃ K v s', K < 1100 ∧ f_X7_nightsToSweep_L44 N m 103 (Int32.ofNat n) (Int32.ofNat (2 ^ nc - 1)) 1 (Int32.ofNat (k + 1)) s = some (v, s') ∧ (∀ S, S < 2 ^ nc → sv mv n K S (hq_gi s' 161 S)) ∧ (∀ c i, ¬ c = 161 → hq_gi s' c i = hq_gi s c i) ∧ ((∃ j, j ≤ K ∧ se mv n j (2 ^ nc - 1) ∧ v = Int32.ofNat j) ∨ (v = -2 ∧ ∀ i, sw mv n i (2 ^ nc - 1) = false)) := by
  have p10 : (2 : Nat) ^ nc ≤ 1024 := Nat.pow_le_pow_right (by omega) (show nc ≤ 10 by omega)
  have p0 : 0 < (2 : Nat) ^ nc := Nat.two_pow_pos nc
  have d10 : ¬ (1 : Int32) = 0 := by decide
  intro q
  induction q with
  | zero =>
    intro k m s hk hm' h160 h161 hc
    have := cn_le (sw mv n k) (2 ^ nc)
    omega
  | succ q ih =>
    intro k m s hk hm' h160 h161 hc
    obtain ⟨m, rfl⟩ : ∃ j, m = j + 1 := ⟨m - 1, by omega⟩
    have hc2 := cn_le (sw mv n k) (2 ^ nc)
    have c1 : ¬ (1024 : Int32) < Int32.ofNat (k + 1) := by rw [nb_lit 1024, nn_lt (by omega) (by omega)]; omega
    have ld : hq_ld s 161 1024 (Int32.ofNat (2 ^ nc - 1)) = some (hq_gi s 161 (2 ^ nc - 1)) := nn_ld (by omega) (by omega)
    by_cases q1 : hq_gi s 161 (2 ^ nc - 1) = -1
    · have f0 := (sv_m1 (by omega) (h161 _ (by omega))).mp q1
      obtain ⟨a6', s1, e1, e2, e3, e4, e5⟩ := sw_71 (N := N) (q44 := f_X7_nightsToSweep_L44 N m) (n := n) (mv := mv) (k := k) hN hnc hn (by omega) hm (2 ^ nc) 0 N 0 s (by omega) (by omega) h160 (fun S hS => by
        rcases h161 S hS with h | ⟨h1, h2⟩
        · exact Or.inl h
        · exact Or.inr ⟨h2, Or.inr ⟨h1, fun ⟨R, h, _⟩ => by omega⟩⟩) (Or.inl rfl) ⟨fun h => absurd h (by decide), fun ⟨S, _, _, R, h, _⟩ => by omega⟩
      have e1 : f_X7_nightsToSweep_L71 N (f_X7_nightsToSweep_L44 N m) N 103 (Int32.ofNat n) (Int32.ofNat (2 ^ nc - 1)) 0 (Int32.ofNat (k + 1)) 0 s = _ := e1
      have step : f_X7_nightsToSweep_L44 N (m + 1) 103 (Int32.ofNat n) (Int32.ofNat (2 ^ nc - 1)) 1 (Int32.ofNat (k + 1)) s = f_X7_nightsToSweep_L44 N m 103 (Int32.ofNat n) (Int32.ofNat (2 ^ nc - 1)) a6' (Int32.ofNat (k + 2)) s1 := by
        rw [← e1, f_X7_nightsToSweep_L44_s]
        simp only [f_X7_nightsToSweep_L44_B, if_neg c1, if_neg d10, ld, Option.bind_some, if_pos q1]
      rcases e4 with rfl | rfl
      · -- nothing new
        obtain ⟨m, rfl⟩ : ∃ j, m = j + 1 := ⟨m - 1, by omega⟩
        have nn : ∀ S, S < 2 ^ nc → sw mv n (k + 1) S = true → sw mv n k S = true := fun S hS h => by
          cases z : sw mv n k S with
          | true => rfl
          | false => exact absurd (e5.mpr ⟨S, hS, z, h⟩) (by decide)
        have fx := sw_fix hm nn
        obtain ⟨v, v1, v2⟩ := sw_J (N := N) (a6 := 0) (a7 := Int32.ofNat (k + 2)) (n := n) (mv := mv) hnc (show k + 1 < 1100 by omega) e2
        refine ⟨k + 1, v, s1, by omega, ?_, e2, e3, ?_⟩
        · rw [step, ← v1, f_X7_nightsToSweep_L44_s]
          by_cases c2 : (1024 : Int32) < Int32.ofNat (k + 2)
          · simp only [f_X7_nightsToSweep_L44_B, if_pos c2]
          · simp only [f_X7_nightsToSweep_L44_B, if_neg c2, if_true]
        · rcases v2 with h | ⟨h1, -⟩
          · exact Or.inl h
          · exact Or.inr ⟨h1, fun i => sw_nf fun z => by rw [fx i _ (by omega) z] at f0; cases f0⟩
      · have lt : cn (sw mv n k) (2 ^ nc) < cn (sw mv n (k + 1)) (2 ^ nc) := cn_lt _ (fun i _ h => sw_up h) (e5.mp rfl)
        obtain ⟨K, v, s', g0, g1, g2, g3, g4⟩ := ih (k + 1) m s1 (by omega) (by omega) (fun S hS => by rw [e3 _ _ (by omega)]; exact h160 S hS) e2 (by omega)
        exact ⟨K, v, s', g0, step.trans g1, g2, fun c i h => (g3 c i h).trans (e3 c i h), g4⟩
    · obtain ⟨v, v1, v2⟩ := sw_J (N := N) (a6 := 1) (a7 := Int32.ofNat (k + 1)) (n := n) (mv := mv) hnc (show k < 1100 by omega) h161
      refine ⟨k, v, s, by omega, ?_, h161, fun _ _ _ => rfl, ?_⟩
      · rw [← v1, f_X7_nightsToSweep_L44_s]
        simp only [f_X7_nightsToSweep_L44_B, if_neg c1, if_neg d10, ld, Option.bind_some, if_neg q1]
      · rcases v2 with h | ⟨-, h2⟩
        · exact Or.inl h
        · exact absurd ((sv_m1 (by omega) (h161 _ (by omega))).mpr h2) q1
theorem sw_X {nx : Nat → Nat} {s : hq_S} (hN : 1100 < N) (hnc : nc ≤ 10) (hn : n ≤ 10) (hx : ∀ c, nx c < 2 ^ nc) (L : hl_S 103 nc nx s) : ∃ K v s', K < 1100 ∧ f_X7_nightsToSweep N 103 (Int32.ofNat n) s = some (v, s') ∧ (∀ S, S < 2 ^ nc → hq_gi s' 160 S = Int32.ofNat (mvs nx S nc)) ∧ (∀ S, S < 2 ^ nc → sv (fun S => mvs nx S nc) n K S (hq_gi s' 161 S)) ∧ (∀ c i, ¬ c = 160 → ¬ c = 161 → hq_gi s' c i = hq_gi s c i) ∧ ((∃ j, j ≤ K ∧ se (fun S => mvs nx S nc) n j (2 ^ nc - 1) ∧ v = Int32.ofNat j) ∨ (v = -2 ∧ ∀ i, sw (fun S => mvs nx S nc) n i (2 ^ nc - 1) = false)) := by
  have p10 : (2 : Nat) ^ nc ≤ 1024 := Nat.pow_le_pow_right (by omega) (show nc ≤ 10 by omega)
  have p0 : 0 < (2 : Nat) ^ nc := Nat.two_pow_pos nc
  obtain ⟨s1, e1, e2, e3⟩ := lg_all (N := N) hN hnc hx L
  have fl : f_J7_fill_53178 N 161 (-1) s1 = some (hq_w s1 161 fun i => if i < 1024 then -1 else hq_gi s1 161 i) := nb_fill (L := 1024) sw_al.1.2.1 sw_al.2.2.1 (by omega) (by omega)
  generalize hw : hq_w s1 161 (fun i => if i < 1024 then (-1 : Int32) else hq_gi s1 161 i) = w at fl
  have w1 : ∀ S, S < 1024 → hq_gi w 161 S = -1 := fun S hS => by rw [← hw, hw_g, if_pos hS]
  have w2 : ∀ c i, ¬ c = 161 → hq_gi w c i = hq_gi s1 c i := fun c i h => by rw [← hw, hw_n h]
  have st : hq_st w 161 1024 (0 : Int32) (0 : Int32) = some (hq_si w 161 0 0) := nn_st (j := 0) (by omega) (by omega)
  have on1 : ((1 : Int32) <<< (hq_gi s 103 0 &&& 31)) - 1 = Int32.ofNat (2 ^ nc - 1) := by rw [L.1, nb_one (by omega), nb_lit 1, nb_sub (by omega)]
  have mv0 : ∀ S, S < 2 ^ nc → (fun S => mvs nx S nc) S < 2 ^ nc := fun S _ => mvs_lt hx nc (Nat.le_refl _)
  obtain ⟨K, v, s', g0, g1, g2, g3, g4⟩ := sw_44 (N := N) (n := n) (mv := fun S => mvs nx S nc) hN hnc hn mv0 1025 0 N (hq_si w 161 0 0) (by omega) (by omega) (fun S hS => by rw [nb_ii, if_neg (fun z => by omega), w2 _ _ (by omega)]; exact e2 S hS) (fun S hS => by
    rw [nb_ii]
    by_cases z : S = 0
    · rw [if_pos ⟨rfl, z⟩]
      exact Or.inl ⟨0, Nat.le_refl _, ⟨by rw [sw]; exact decide_eq_true z, fun i hi => by omega⟩, rfl⟩
    · rw [if_neg (fun w => z w.2), w1 S (by omega)]
      exact Or.inr ⟨rfl, by rw [sw]; exact decide_eq_false z⟩) (by
    have h := cn_lt (P := fun _ => false) (Q := sw (fun S => mvs nx S nc) n 0) (2 ^ nc) (fun i _ h => by cases h) ⟨0, p0, rfl, by rw [sw]; rfl⟩
    omega)
  have g1 : f_X7_nightsToSweep_L44 N N 103 (Int32.ofNat n) (Int32.ofNat (2 ^ nc - 1)) 1 1 (hq_si w 161 0 0) = some (v, s') := g1
  refine ⟨K, v, s', g0, ?_, fun S hS => ?_, g2, fun c i h1 h2 => ?_, g4⟩
  · simp only [f_X7_nightsToSweep, e1, fl, st, Option.bind_some, on1, g1]
  · rw [g3 _ _ (by omega), nb_ii, if_neg (fun z => by omega), w2 _ _ (by omega)]; exact e2 S hS
  · rw [g3 _ _ h2, nb_ii, if_neg (fun z => h2 z.1), w2 _ _ h2, e3 _ _ h1]
end
