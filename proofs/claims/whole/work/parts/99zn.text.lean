/-! PLAYED FROM THE TEXT: the class's streets without bars -/
section
variable {N nc nl t : Nat} {fr to on : Nat → Nat} {sx : hq_S}
theorem hb_text (hN : 100 < N) (t1 : hq_gr sx 0 2 = t) (t2 : t = 2 ∨ t = 25) (X : hl_X t nl nc fr to on sx) : ∃ sx1, f_X11_playFromText N sx = some sx1 ∧ (hq_gr sx1 113 0 = t ∧ hq_gr sx1 113 1 = 108 ∧ hq_gr sx1 113 2 = 94) ∧ hl_S 108 nc (ly_nx fr to on 0 false nl) sx1 ∧ (∀ a b, a < nc → b < nc → hq_gi sx1 110 (10 * a + b) = Int32.ofNat (bf_far (ly_nx fr to on 0 false nl) nc a b)) ∧ (hq_gi sx1 113 3 = 1 ∧ hq_gi sx1 113 4 = -1 ∧ hq_gi sx1 113 5 = 1) ∧ (∀ c i, ¬ c = 113 → ¬ c = 108 → ¬ c = 109 → ¬ c = 110 → hq_gi sx1 c i = hq_gi sx c i) ∧ (∀ c i, hq_gj sx1 c i = hq_gj sx c i) ∧ hq_gr sx1 0 2 = t := by
  have iT : hq_isT t := by rcases t2 with rfl | rfl <;> decide
  obtain ⟨g, f, bu, bg, bf⟩ := hb_build (N := N) (u := 108) (t := t) (both := false) (a3 := 0) (bar := 0) (Or.inr rfl) t2 hN rfl (by omega) X
  have bu : f_X8_build N 108 t 0 0 sx = some (hq_w (hq_w (hq_si sx 108 0 (Int32.ofNat nc)) (108 + 1) g) (108 + 2) f) := bu
  have r : hq_gr (hq_w (hq_w (hq_si sx 108 0 (Int32.ofNat nc)) (108 + 1) g) (108 + 2) f) 0 2 = t := by rw [hw_r, hw_r, nb_ir]; exact t1
  refine ⟨hp_su (hq_w (hq_w (hq_si sx 108 0 (Int32.ofNat nc)) (108 + 1) g) (108 + 2) f) t 108 94 1, ?_, ⟨hp_su_3.1, hp_su_3.2.1, hp_su_3.2.2.1⟩, ⟨?_, fun c hc => ?_⟩, fun a b ha hb => ?_, ⟨hp_su_3.2.2.2.1, hp_su_3.2.2.2.2.1, hp_su_3.2.2.2.2.2⟩, fun c i h1 h2 h3 h4 => ?_, fun _ _ => rfl, ?_⟩
  · unfold f_X11_playFromText
    rw [t1, if_pos iT, bu, Option.bind_some, r, if_pos iT, hp_setUp]
    rfl
  · rw [hp_su_i (by omega), hw_n (by omega), hw_n (by omega), nn_g1]
  · rw [hp_su_i (by omega), hw_n (by omega), hw_g]; exact bg c hc
  · rw [hp_su_i (by omega), show 110 = 108 + 2 from rfl, hw_g]; exact bf a b ha hb
  · rw [hp_su_i h1, hw_n h4, hw_n h3, nn_gk h2]
  · rw [hp_su_r (by omega)]; exact r
end
/-! THE LAST HOUR: the class's of all sights, the reference's of those that stand -/
section
variable {N k K : Nat} {li : Nat → Option Nat} {sx sm : hq_S}
theorem lh_X (hk : k ≤ 24) (k1 : hq_gi sx 163 0 = Int32.ofNat k) (Fa : ∀ i, i < k → ¬ hq_gi sx 168 i = -1 ∨ (hq_gi sx 168 i = -1 ∧ ∃ a : Nat, a ≤ 60 ∧ hq_gi sx 164 i = Int32.ofNat a)) : ∀ (q j m a : Nat), j + q = k → q < m → a ≤ 60 → ∃ b, a ≤ b ∧ b ≤ 60 ∧ (∀ i x, j ≤ i → i < k → hq_gi sx 168 i = -1 → x ≤ 60 → hq_gi sx 164 i = Int32.ofNat x → x ≤ b) ∧ f_X2_lastHour_L4 N m (Int32.ofNat a) (Int32.ofNat j) sx = some (Int32.ofNat b, sx) := by
  intro q
  induction q with
  | zero =>
    intro j m a hj hm ha
    obtain ⟨m, rfl⟩ : ∃ k, m = k + 1 := ⟨m - 1, by omega⟩
    have c : ¬ Int32.ofNat j < Int32.ofNat k := by rw [nn_lt (by omega) (by omega)]; omega
    exact ⟨a, Nat.le_refl _, ha, fun i x h1 h2 => by omega, by simp only [f_X2_lastHour_L4_s, f_X2_lastHour_L4_B, k1, if_neg c]⟩
  | succ q ih =>
    intro j m a hj hm ha
    obtain ⟨m, rfl⟩ : ∃ k, m = k + 1 := ⟨m - 1, by omega⟩
    have c : Int32.ofNat j < Int32.ofNat k := (nn_lt (by omega) (by omega)).mpr (by omega)
    have l8 : hq_ld sx 168 24 (Int32.ofNat j) = some (hq_gi sx 168 j) := nn_ld (by omega) (by omega)
    rcases Fa j (by omega) with h | ⟨h, y, y1, y2⟩
    · obtain ⟨b, b1, b2, b3, b4⟩ := ih (j + 1) m a (by omega) (by omega) ha
      refine ⟨b, b1, b2, fun i x h1 h2 h3 => ?_, ?_⟩
      · by_cases e : i = j
        · rw [e] at h3; exact absurd h3 h
        · exact b3 i x (by omega) h2 h3
      · rw [← b4]
        simp only [f_X2_lastHour_L4_s, f_X2_lastHour_L4_B, k1, if_pos c, l8, Option.bind_some, if_neg h, nn_succ]
    · have l4 : hq_ld sx 164 24 (Int32.ofNat j) = some (Int32.ofNat y) := by rw [nn_ld (by omega) (by omega), y2]
      have mx := nb_max (show a < 2147483648 by omega) (show y < 2147483648 by omega)
      obtain ⟨b, b1, b2, b3, b4⟩ := ih (j + 1) m (max a y) (by omega) (by omega) (by omega)
      refine ⟨b, by omega, b2, fun i x h1 h2 h3 hx h4 => ?_, ?_⟩
      · by_cases e : i = j
        · rw [e, y2] at h4
          have : y = x := (nn_inj (by omega) (by omega)).mp h4
          omega
        · exact b3 i x (by omega) h2 h3 hx h4
      · rw [← b4]
        simp only [f_X2_lastHour_L4_s, f_X2_lastHour_L4_B, k1, if_pos c, l8, h, if_true, l4, Option.bind_some, mx, nn_succ]
end
