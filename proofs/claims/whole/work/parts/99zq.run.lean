/-! A BOLDNESS TRIED, HOUR BY HOUR -/
def bo_g (s s' : hq_S) : Prop := (∀ c i, 176 ≤ c → c ≤ 193 → hq_gi s' c i = hq_gi s c i) ∧ (∀ i, i = 49 ∨ i = 50 ∨ i = 53 ∨ i = 54 ∨ i = 74 ∨ i = 75 → hq_gi s' 174 i = hq_gi s 174 i) ∧ ∀ c i, 224 ≤ c → c ≤ 229 → hq_gi s' c i = hq_gi s c i
theorem bo_g_rf (s : hq_S) : bo_g s s := ⟨fun _ _ _ _ => rfl, fun _ _ => rfl, fun _ _ _ _ => rfl⟩
theorem bo_g_tr {s s' s2 : hq_S} (h : bo_g s s') (g : bo_g s' s2) : bo_g s s2 := ⟨fun c i h1 h2 => (g.1 c i h1 h2).trans (h.1 c i h1 h2), fun i hi => (g.2.1 i hi).trans (h.2.1 i hi), fun c i h1 h2 => (g.2.2 c i h1 h2).trans (h.2.2 c i h1 h2)⟩
theorem bo_nw {c i : Nat} (h : (176 ≤ c ∧ c ≤ 193) ∨ (224 ≤ c ∧ c ≤ 229) ∨ (c = 174 ∧ (i = 49 ∨ i = 50 ∨ i = 53 ∨ i = 54 ∨ i = 74 ∨ i = 75))) : hq_nw w_X12_passes c i = true := by
  rcases h with ⟨h1, h2⟩ | ⟨h1, h2⟩ | ⟨rfl, h⟩
  · have h3 : ∀ c, c < 18 → hq_nw w_X12_passes (176 + c) i = true := by
      intro c hc
      have : c = 0 ∨ c = 1 ∨ c = 2 ∨ c = 3 ∨ c = 4 ∨ c = 5 ∨ c = 6 ∨ c = 7 ∨ c = 8 ∨ c = 9 ∨ c = 10 ∨ c = 11 ∨ c = 12 ∨ c = 13 ∨ c = 14 ∨ c = 15 ∨ c = 16 ∨ c = 17 := by omega
      rcases this with rfl | rfl | rfl | rfl | rfl | rfl | rfl | rfl | rfl | rfl | rfl | rfl | rfl | rfl | rfl | rfl | rfl | rfl <;> rfl
    have := h3 (c - 176) (by omega)
    rw [show 176 + (c - 176) = c by omega] at this
    exact this
  · have h3 : c = 224 ∨ c = 225 ∨ c = 226 ∨ c = 227 ∨ c = 228 ∨ c = 229 := by omega
    rcases h3 with rfl | rfl | rfl | rfl | rfl | rfl <;> rfl
  · rcases h with rfl | rfl | rfl | rfl | rfl | rfl <;> rfl
theorem bo_gp {N : Nat} {a b : Int32} {s s' : hq_S} (h : f_X12_passes N a b s = some s') : bo_g s s' := ⟨fun c i h1 h2 => (f_X12_passes_fw h c i (bo_nw (Or.inl ⟨h1, h2⟩))).1, fun i hi => (f_X12_passes_fw h 174 i (bo_nw (Or.inr (Or.inr ⟨rfl, hi⟩)))).1, fun c i h1 h2 => (f_X12_passes_fw h c i (bo_nw (Or.inr (Or.inl ⟨h1, h2⟩)))).1⟩
section
variable {N nc nl ng nt t bar k K : Nat} {fr to on : Nat → Nat} {both : Bool} {li : Nat → Option Nat} {o : hq_S}
theorem bo_run {q12 : Int32 → Nat → Int32 → Int32 → Int32 → Int32 → hq_S → Option (Int32 × hq_S)} {i k3 bo a a' : Nat} {a6 : Int32} (hN : 100 < N) (hi : i < nt) (hbo : bo < 10) (haa : a ≤ a') (ha : a' ≤ 60) : ∀ (q j m m' : Nat) (sx sm : hq_S), j + q = a' + 1 → q < m → q < m' → (∀ x, x < k → (sd li K K).2.testBit x = true → ∀ h, a < h → h ≤ 60 → ¬ hq_gi sm 224 x = Int32.ofNat h) → hh_P nc nl ng nt t 108 94 1 fr to on bar both 0 o sx sm → bo_I nc nt k K li sx sm → ∃ b sx' sm' smg, (b = 0 ∨ b = 1) ∧ f_X2_boldsOf_L33 N q12 m (Int32.ofNat i) k3 (Int32.ofNat a') (Int32.ofNat (sd li K K).2) a6 (Int32.ofNat bo) 1 (Int32.ofNat j) sx = q12 (Int32.ofNat i) k3 (Int32.ofNat a') (Int32.ofNat (sd li K K).2) (a6 ||| (if b = 0 then 0 else Int32.ofNat (2 ^ bo))) (Int32.ofNat (bo + 1)) sx' ∧ (j ≤ a + 1 → f_X12_fitsBold_L7 N m' (Int32.ofNat a) (Int32.ofNat j) sm = some (b, sm')) ∧ (a < j → b = 1 ∧ sm' = sm) ∧ hh_P nc nl ng nt t 108 94 1 fr to on bar both 0 o sx' smg ∧ bo_I nc nt k K li sx' smg ∧ bo_g sm' smg ∧ bo_g sm sm' ∧ hm_o 1 o sm' := by
  have d10 : ¬ (1 : Int32) = 0 := by decide
  have on1 := nb_one (show bo < 32 by omega)
  intro q
  induction q with
  | zero =>
    intro j m m' sx sm hj hm hm' NS P I
    obtain ⟨m, rfl⟩ : ∃ k, m = k + 1 := ⟨m - 1, by omega⟩
    obtain ⟨m', rfl⟩ : ∃ k, m' = k + 1 := ⟨m' - 1, by omega⟩
    have c : Int32.ofNat a' < Int32.ofNat j := (nn_lt (by omega) (by omega)).mpr (by omega)
    have c2 : Int32.ofNat a < Int32.ofNat j := (nn_lt (by omega) (by omega)).mpr (by omega)
    refine ⟨1, sx, sm, sm, Or.inr rfl, ?_, fun _ => ?_, fun _ => ⟨rfl, rfl⟩, P, I, bo_g_rf _, bo_g_rf _, P.2.2.2.2.2.2.2.2⟩
    · simp only [f_X2_boldsOf_L33_s, f_X2_boldsOf_L33_B, f_X2_boldsOf_J91, if_pos c, if_neg d10, Option.bind_some, on1, nn_succ]
    · simp only [f_X12_fitsBold_L7_s, f_X12_fitsBold_L7_B, if_pos c2]
  | succ q ih =>
    intro j m m' sx sm hj hm hm' NS P I
    obtain ⟨m, rfl⟩ : ∃ k, m = k + 1 := ⟨m - 1, by omega⟩
    obtain ⟨m', rfl⟩ : ∃ k, m' = k + 1 := ⟨m' - 1, by omega⟩
    have c1 : ¬ Int32.ofNat a' < Int32.ofNat j := by rw [nn_lt (by omega) (by omega)]; omega
    have c6 : ¬ (60 : Int32) < Int32.ofNat j := by rw [nb_lit 60, nn_lt (by omega) (by omega)]; omega
    obtain ⟨b, sx1, sm1, hb, e1, e2, e3, e4, P1, I1⟩ := bo_hour (h := j) hN (by omega) P I
    have g1 := bo_gp e2
    have h4 := P1.1.1.2.2.2
    have r2 := P1.2.2.1.2.2
    have iN : hq_isN 94 := by decide
    have lh : hq_ld sx1 101 4 (Int32.ofNat i) = some (hq_gi sx1 101 i) := nn_ld (by omega) (by omega)
    have st : hq_st sx1 169 610 (Int32.ofNat (61 * bo + j)) (hq_gi sx1 101 i) = some (hq_si sx1 169 (61 * bo + j) (hq_gi sx1 101 i)) := nn_st (by omega) (by omega)
    have step : f_X2_boldsOf_L33 N q12 (m + 1) (Int32.ofNat i) k3 (Int32.ofNat a') (Int32.ofNat (sd li K K).2) a6 (Int32.ofNat bo) 1 (Int32.ofNat j) sx = f_X2_boldsOf_L33 N q12 m (Int32.ofNat i) k3 (Int32.ofNat a') (Int32.ofNat (sd li K K).2) a6 (Int32.ofNat bo) b (Int32.ofNat (j + 1)) (hq_si sx1 169 (61 * bo + j) (hq_gi sx1 101 i)) := by
      simp only [f_X2_boldsOf_L33_s, f_X2_boldsOf_L33_B, f_X3_hadOfThief, if_neg c1, if_neg c6, if_neg d10, e1, Option.bind_some, r2, if_pos iN, Nat.reduceAdd, lh, nb_61m, nb_add, st, e3, nn_succ]
    have P2 := hh_P_9 (x := 61 * bo + j) (v := hq_gi sx1 101 i) P1
    have I2 := bo_I_k (sx := sx1) (sx' := hq_si sx1 169 (61 * bo + j) (hq_gi sx1 101 i)) (fun c i h1 h2 => by rw [nb_ii, if_neg (fun z => by omega)]) rfl rfl (fun _ _ _ _ => rfl) I1
    have NS1 : ∀ x, x < k → (sd li K K).2.testBit x = true → ∀ h, a < h → h ≤ 60 → ¬ hq_gi sm1 224 x = Int32.ofNat h := fun x hx ht h h1 h2 => by rw [g1.2.2 _ _ (by omega) (by omega)]; exact NS x hx ht h h1 h2
    rcases hb with rfl | rfl
    · -- it isn't so
      have hja : j ≤ a := by
        by_cases q1 : j ≤ a
        · exact q1
        · have tl := (sd_lt (by have := I.1.1; have := I.1.2.1; omega) I.2.2.2.1 K (Nat.le_refl _)).2
          have tb := sd_t I2.2.2.2.1 K (Nat.le_refl _)
          have h1 := so_none (N := N) (k := k) (sx := hq_si sx1 169 (61 * bo + j) (hq_gi sx1 101 i)) (T := (sd li K K).2) (h := j) hN I.1.2.1 (by omega) I2.1.2.2 (fun x hx ht => by
            have n1 := NS1 x hx ht j (by omega) (by omega)
            rcases I2.2.1 x hx with ⟨n, hn, -, e⟩ | ⟨-, -, ⟨y, -, -, y1, y2⟩, -⟩
            · have e8 : hq_gi sm1 228 x = -1 := by
                rcases I2.2.2.2.1 x ((tb x).mp ht).2.1 with ⟨-, e⟩ | ⟨n, -, e, -⟩
                · exact e
                · rw [((tb x).mp ht).2.2.2] at e; cases e
              rw [e8] at e
              exact absurd (show Int32.ofNat n < 0 by rw [← e]; decide) (nn_nlt0 (by have := I.1.2.1; omega))
            · rw [y1, ← y2]; exact n1)
          rw [e3] at h1
          have h2 : (0 : Int32) = 1 := congrArg Prod.fst (Option.some.inj h1)
          exact absurd h2 (by decide)
      have c2 : ¬ Int32.ofNat a < Int32.ofNat j := by rw [nn_lt (by omega) (by omega)]; omega
      obtain ⟨m, rfl⟩ : ∃ k, m = k + 1 := ⟨m - 1, by omega⟩
      refine ⟨0, hq_si sx1 169 (61 * bo + j) (hq_gi sx1 101 i), sm1, sm1, Or.inl rfl, ?_, fun _ => ?_, fun h => by omega, P2, I2, bo_g_rf _, g1, P1.2.2.2.2.2.2.2.2⟩
      · rw [step]
        by_cases q5 : Int32.ofNat a' < Int32.ofNat (j + 1)
        · simp only [f_X2_boldsOf_L33_s, f_X2_boldsOf_L33_B, f_X2_boldsOf_J91, if_pos q5, if_true, Option.bind_some, nn_succ]
        · by_cases q6 : (60 : Int32) < Int32.ofNat (j + 1)
          · simp only [f_X2_boldsOf_L33_s, f_X2_boldsOf_L33_B, f_X2_boldsOf_J91, if_neg q5, if_pos q6, if_true, Option.bind_some, nn_succ]
          · simp only [f_X2_boldsOf_L33_s, f_X2_boldsOf_L33_B, f_X2_boldsOf_J91, if_neg q5, if_neg q6, if_true, Option.bind_some, nn_succ]
      · simp only [f_X12_fitsBold_L7_s, f_X12_fitsBold_L7_B, if_neg c2, e2, e4, Option.bind_some, if_true]
    · obtain ⟨b, sx2, sm2, smg, f1, f2, f3, f4, f5, f6, f7, f8, f9⟩ := ih (j + 1) m m' _ sm1 (by omega) (by omega) (by omega) NS1 P2 I2
      by_cases q1 : j ≤ a
      · have c2 : ¬ Int32.ofNat a < Int32.ofNat j := by rw [nn_lt (by omega) (by omega)]; omega
        refine ⟨b, sx2, sm2, smg, f1, by rw [step]; exact f2, fun _ => ?_, fun h => by omega, f5, f6, f7, bo_g_tr g1 f8, f9⟩
        rw [← f3 (by omega)]
        simp only [f_X12_fitsBold_L7_s, f_X12_fitsBold_L7_B, if_neg c2, e2, e4, Option.bind_some, if_neg d10, nn_succ]
      · have c2 : Int32.ofNat a < Int32.ofNat j := (nn_lt (by omega) (by omega)).mpr (by omega)
        obtain ⟨rfl, rfl⟩ := f4 (by omega)
        refine ⟨1, sx2, sm, smg, Or.inr rfl, by rw [step]; exact f2, fun _ => ?_, fun _ => ⟨rfl, rfl⟩, f5, f6, bo_g_tr g1 f7, bo_g_rf _, P.2.2.2.2.2.2.2.2⟩
        simp only [f_X12_fitsBold_L7_s, f_X12_fitsBold_L7_B, if_pos c2]
end
