/-! ASK: what one had, hour by hour, by his boldness -/
/-- q hours of the class from hour j on, what thief i had written down -/
def ak_ch (N i bo : Nat) : Nat → Nat → hq_S → hq_S → Prop
  | 0, _, s, s' => s' = s
  | q + 1, j, s, s' => ∃ s1, f_X3_pass N s = some s1 ∧ ak_ch N i bo q (j + 1) (hq_si s1 169 (61 * bo + j) (hq_gi s1 101 i)) s'
def ak_g (s s' : hq_S) : Prop := (∀ c i, 176 ≤ c → c ≤ 193 → hq_gi s' c i = hq_gi s c i) ∧ (∀ i, i = 49 ∨ i = 50 ∨ i = 74 ∨ i = 75 → hq_gi s' 174 i = hq_gi s 174 i) ∧ ∀ c i, 224 ≤ c → c ≤ 229 → hq_gi s' c i = hq_gi s c i
theorem ak_g_rf (s : hq_S) : ak_g s s := ⟨fun _ _ _ _ => rfl, fun _ _ => rfl, fun _ _ _ _ => rfl⟩
theorem ak_g_tr {s s' s2 : hq_S} (h : ak_g s s') (g : ak_g s' s2) : ak_g s s2 := ⟨fun c i h1 h2 => (g.1 c i h1 h2).trans (h.1 c i h1 h2), fun i hi => (g.2.1 i hi).trans (h.2.1 i hi), fun c i h1 h2 => (g.2.2 c i h1 h2).trans (h.2.2 c i h1 h2)⟩
theorem ak_g_of {s s' : hq_S} (h : bo_g s s') : ak_g s s' := ⟨h.1, fun i hi => h.2.1 i (by omega), h.2.2⟩
theorem ak_g_sy {s s' : hq_S} (h : ak_g s s') : ak_g s' s := ⟨fun c i h1 h2 => (h.1 c i h1 h2).symm, fun i hi => (h.2.1 i hi).symm, fun c i h1 h2 => (h.2.2 c i h1 h2).symm⟩
section
variable {N nc nl ng nt t bar k K : Nat} {fr to on : Nat → Nat} {both : Bool} {li : Nat → Option Nat} {o : hq_S}
theorem bo_run2 {q12 : Int32 → Nat → Int32 → Int32 → Int32 → Int32 → hq_S → Option (Int32 × hq_S)} {i k3 bo a a' : Nat} {a6 : Int32} (hN : 100 < N) (hi : i < nt) (hbo : bo < 10) (haa : a ≤ a') (ha : a' ≤ 60) : ∀ (q j m m' : Nat) (sx sm : hq_S), 1 ≤ j → j + q = a' + 1 → q < m → q < m' → (∀ x, x < k → (sd li K K).2.testBit x = true → ∀ h, a < h → h ≤ 60 → ¬ hq_gi sm 224 x = Int32.ofNat h) → hh_P nc nl ng nt t 108 94 1 fr to on bar both 0 o sx sm → bo_I nc nt k K li sx sm → ∃ b sx' sm' smg, (b = 0 ∨ b = 1) ∧ f_X2_boldsOf_L33 N q12 m (Int32.ofNat i) k3 (Int32.ofNat a') (Int32.ofNat (sd li K K).2) a6 (Int32.ofNat bo) 1 (Int32.ofNat j) sx = q12 (Int32.ofNat i) k3 (Int32.ofNat a') (Int32.ofNat (sd li K K).2) (a6 ||| (if b = 0 then 0 else Int32.ofNat (2 ^ bo))) (Int32.ofNat (bo + 1)) sx' ∧ (j ≤ a + 1 → f_X12_fitsBold_L7 N m' (Int32.ofNat a) (Int32.ofNat j) sm = some (b, sm')) ∧ (a < j → b = 1 ∧ sm' = sm) ∧ hh_P nc nl ng nt t 108 94 1 fr to on bar both 0 o sx' smg ∧ bo_I nc nt k K li sx' smg ∧ bo_g sm' smg ∧ bo_g sm sm' ∧ hm_o 1 o sm' ∧ (b = 1 → ak_ch N i bo q j sx sx') ∧ (∀ x, ¬ (61 * bo < x ∧ x ≤ 61 * bo + 60) → hq_gi sx' 169 x = hq_gi sx 169 x) := by
  have d10 : ¬ (1 : Int32) = 0 := by decide
  have on1 := nb_one (show bo < 32 by omega)
  intro q
  induction q with
  | zero =>
    intro j m m' sx sm h1j hj hm hm' NS P I
    obtain ⟨m, rfl⟩ : ∃ k, m = k + 1 := ⟨m - 1, by omega⟩
    obtain ⟨m', rfl⟩ : ∃ k, m' = k + 1 := ⟨m' - 1, by omega⟩
    have c : Int32.ofNat a' < Int32.ofNat j := (nn_lt (by omega) (by omega)).mpr (by omega)
    have c2 : Int32.ofNat a < Int32.ofNat j := (nn_lt (by omega) (by omega)).mpr (by omega)
    refine ⟨1, sx, sm, sm, Or.inr rfl, ?_, fun _ => ?_, fun _ => ⟨rfl, rfl⟩, P, I, bo_g_rf _, bo_g_rf _, P.2.2.2.2.2.2.2.2, fun _ => rfl, fun _ _ => rfl⟩
    · simp only [f_X2_boldsOf_L33_s, f_X2_boldsOf_L33_B, f_X2_boldsOf_J91, if_pos c, if_neg d10, Option.bind_some, on1, nn_succ]
    · simp only [f_X12_fitsBold_L7_s, f_X12_fitsBold_L7_B, if_pos c2]
  | succ q ih =>
    intro j m m' sx sm h1j hj hm hm' NS P I
    obtain ⟨m, rfl⟩ : ∃ k, m = k + 1 := ⟨m - 1, by omega⟩
    obtain ⟨m', rfl⟩ : ∃ k, m' = k + 1 := ⟨m' - 1, by omega⟩
    have c1 : ¬ Int32.ofNat a' < Int32.ofNat j := by rw [nn_lt (by omega) (by omega)]; omega
    have c6 : ¬ (60 : Int32) < Int32.ofNat j := by rw [nb_lit 60, nn_lt (by omega) (by omega)]; omega
    obtain ⟨b, sx1, sm1, hb, e1, e2, e3, e4, P1, I1⟩ := bo_hour (h := j) hN (by omega) P I
    have g1 := bo_gp e2
    have k9 : ∀ x, hq_gi sx1 169 x = hq_gi sx 169 x := fun x => (((f_X3_pass_fw (Or.inr rfl) P.2.2.1.2.2 e1).kp (D := [(169, none)]) (by decide)) 169 x (hq_inA_spec (by decide) x)).1
    have fr9 : ∀ x, ¬ (61 * bo < x ∧ x ≤ 61 * bo + 60) → hq_gi (hq_si sx1 169 (61 * bo + j) (hq_gi sx1 101 i)) 169 x = hq_gi sx 169 x := fun x hx => by rw [nb_ii, if_neg (fun z => by omega), k9]
    have h4 := P1.1.1.2.2.2
    have r2 := P1.2.2.1.2.2
    have iN : hq_isN 94 := by decide
    have lh : hq_ld sx1 101 4 (Int32.ofNat i) = some (hq_gi sx1 101 i) := nn_ld (by omega) (by omega)
    have st : hq_st sx1 169 610 (Int32.ofNat (61 * bo + j)) (hq_gi sx1 101 i) = some (hq_si sx1 169 (61 * bo + j) (hq_gi sx1 101 i)) := nn_st (by omega) (by omega)
    have step : f_X2_boldsOf_L33 N q12 (m + 1) (Int32.ofNat i) k3 (Int32.ofNat a') (Int32.ofNat (sd li K K).2) a6 (Int32.ofNat bo) 1 (Int32.ofNat j) sx = f_X2_boldsOf_L33 N q12 m (Int32.ofNat i) k3 (Int32.ofNat a') (Int32.ofNat (sd li K K).2) a6 (Int32.ofNat bo) b (Int32.ofNat (j + 1)) (hq_si sx1 169 (61 * bo + j) (hq_gi sx1 101 i)) := by
      simp only [f_X2_boldsOf_L33_s, f_X2_boldsOf_L33_B, f_X3_hadOfThief, if_neg c1, if_neg c6, if_neg d10, e1, Option.bind_some, r2, if_pos iN, Nat.reduceAdd, lh, nb_61m, nb_add, st, e3, nn_succ]
    have P2 := hh_P_9 (x := 61 * bo + j) (v := hq_gi sx1 101 i) P1
    have I2 := bo_I_k (sx := sx1) (sx' := hq_si sx1 169 (61 * bo + j) (hq_gi sx1 101 i)) (fun c i h1 h2 => by rw [nb_ii, if_neg (fun z => by omega)]) rfl rfl (fun _ _ _ _ => rfl) I1
    have NS1 : ∀ x, x < k → (sd li K K).2.testBit x = true → ∀ h, a < h → h ≤ 60 → ¬ hq_gi sm1 224 x = Int32.ofNat h := fun x hx ht h h1 h2 => by rw [g1.2.2 _ _ (by omega) (by omega)]; exact NS x hx ht h h1 h2
    rcases hb with rfl | rfl
    · -- it isn't so
      have hja : j ≤ a := by
        by_cases q1 : j ≤ a
        · exact q1
        · have tl := (sd_lt (by have := I.1.1; have := I.1.2.1; omega) I.2.2.2.1 K (Nat.le_refl _)).2
          have tb := sd_t I2.2.2.2.1 K (Nat.le_refl _)
          have h1 := so_none (N := N) (k := k) (sx := hq_si sx1 169 (61 * bo + j) (hq_gi sx1 101 i)) (T := (sd li K K).2) (h := j) hN I.1.2.1 (by omega) I2.1.2.2 (fun x hx ht => by
            have n1 := NS1 x hx ht j (by omega) (by omega)
            rcases I2.2.1 x hx with ⟨n, hn, -, e⟩ | ⟨-, -, ⟨y, -, -, y1, y2⟩, -⟩
            · have e8 : hq_gi sm1 228 x = -1 := by
                rcases I2.2.2.2.1 x ((tb x).mp ht).2.1 with ⟨-, e⟩ | ⟨n, -, e, -⟩
                · exact e
                · rw [((tb x).mp ht).2.2.2] at e; cases e
              rw [e8] at e
              exact absurd (show Int32.ofNat n < 0 by rw [← e]; decide) (nn_nlt0 (by have := I.1.2.1; omega))
            · rw [y1, ← y2]; exact n1)
          rw [e3] at h1
          have h2 : (0 : Int32) = 1 := congrArg Prod.fst (Option.some.inj h1)
          exact absurd h2 (by decide)
      have c2 : ¬ Int32.ofNat a < Int32.ofNat j := by rw [nn_lt (by omega) (by omega)]; omega
      obtain ⟨m, rfl⟩ : ∃ k, m = k + 1 := ⟨m - 1, by omega⟩
      refine ⟨0, hq_si sx1 169 (61 * bo + j) (hq_gi sx1 101 i), sm1, sm1, Or.inl rfl, ?_, fun _ => ?_, fun h => by omega, P2, I2, bo_g_rf _, g1, P1.2.2.2.2.2.2.2.2, fun h => absurd h (by decide), fr9⟩
      · rw [step]
        by_cases q5 : Int32.ofNat a' < Int32.ofNat (j + 1)
        · simp only [f_X2_boldsOf_L33_s, f_X2_boldsOf_L33_B, f_X2_boldsOf_J91, if_pos q5, if_true, Option.bind_some, nn_succ]
        · by_cases q6 : (60 : Int32) < Int32.ofNat (j + 1)
          · simp only [f_X2_boldsOf_L33_s, f_X2_boldsOf_L33_B, f_X2_boldsOf_J91, if_neg q5, if_pos q6, if_true, Option.bind_some, nn_succ]
          · simp only [f_X2_boldsOf_L33_s, f_X2_boldsOf_L33_B, f_X2_boldsOf_J91, if_neg q5, if_neg q6, if_true, Option.bind_some, nn_succ]
      · simp only [f_X12_fitsBold_L7_s, f_X12_fitsBold_L7_B, if_neg c2, e2, e4, Option.bind_some, if_true]
    · obtain ⟨b, sx2, sm2, smg, f1, f2, f3, f4, f5, f6, f7, f8, f9, f10, f11⟩ := ih (j + 1) m m' _ sm1 (by omega) (by omega) (by omega) (by omega) NS1 P2 I2
      by_cases q1 : j ≤ a
      · have c2 : ¬ Int32.ofNat a < Int32.ofNat j := by rw [nn_lt (by omega) (by omega)]; omega
        refine ⟨b, sx2, sm2, smg, f1, by rw [step]; exact f2, fun _ => ?_, fun h => by omega, f5, f6, f7, bo_g_tr g1 f8, f9, fun h => ⟨sx1, e1, f10 h⟩, fun x hx => (f11 x hx).trans (fr9 x hx)⟩
        rw [← f3 (by omega)]
        simp only [f_X12_fitsBold_L7_s, f_X12_fitsBold_L7_B, if_neg c2, e2, e4, Option.bind_some, if_neg d10, nn_succ]
      · have c2 : Int32.ofNat a < Int32.ofNat j := (nn_lt (by omega) (by omega)).mpr (by omega)
        obtain ⟨rfl, rfl⟩ := f4 (by omega)
        refine ⟨1, sx2, sm, smg, Or.inr rfl, by rw [step]; exact f2, fun _ => ?_, fun _ => ⟨rfl, rfl⟩, f5, f6, bo_g_tr g1 f7, bo_g_rf _, P.2.2.2.2.2.2.2.2, fun h => ⟨sx1, e1, f10 rfl⟩, fun x hx => (f11 x hx).trans (fr9 x hx)⟩
        simp only [f_X12_fitsBold_L7_s, f_X12_fitsBold_L7_B, if_pos c2]
end
section
variable {N nc nl ng nt t k K : Nat} {fr to on : Nat → Nat} {li : Nat → Option Nat}
/-- for a boldness that fits: the class's hours of it, and what was written down of them -/
def ak_T (N nc nl ng nt t k K i : Nat) (fr to on : Nat → Nat) (li : Nat → Option Nat) (sx' sm : hq_S) (b : Nat) : Prop := ∃ sxb smb sx1 sx2, bo_B nc nl ng nt t k K i fr to on li sxb smb ∧ ak_g sm smb ∧ f_X3_restart N (t + 14) (Int32.ofNat i) (Int32.ofNat b) sxb = some sx1 ∧ ak_ch N i b 60 1 sx1 sx2 ∧ ∀ h, h ≤ 60 → hq_gi sx' 169 (61 * b + h) = hq_gi sx2 169 (61 * b + h)
theorem ak_ten {i a : Nat} (hN : 100 < N) (t2 : t = 2 ∨ t = 25) (hi : i < nt) (ha : a ≤ 60) : ∀ (q j m m' A : Nat) (sx sm : hq_S), j + q = 10 → q < m → q < m' → A < 2 ^ j → (∀ x, x < k → (sd li K K).2.testBit x = true → ∀ h, a < h → h ≤ 60 → ¬ hq_gi sm 224 x = Int32.ofNat h) → bo_B nc nl ng nt t k K i fr to on li sx sm → ∃ V sx' sm', V < 1024 ∧ f_X2_boldsOf_L12 N m (Int32.ofNat i) (t + 14) 60 (Int32.ofNat (sd li K K).2) (Int32.ofNat A) (Int32.ofNat j) sx = some (Int32.ofNat V, sx') ∧ f_X12_boldsOf_L129 N m' (Int32.ofNat i) (Int32.ofNat a) (Int32.ofNat A) (Int32.ofNat j) sm = some (Int32.ofNat V, sm') ∧ hm_o 1 sm sm' ∧ ak_g sm sm' ∧ (∃ smz, bo_B nc nl ng nt t k K i fr to on li sx' smz ∧ ak_g sm smz) ∧ (∀ b, b < j → V.testBit b = A.testBit b) ∧ (∀ b, j ≤ b → b < 10 → V.testBit b = true → ak_T N nc nl ng nt t k K i fr to on li sx' sm b) ∧ (∀ x, x ≤ 61 * j → hq_gi sx' 169 x = hq_gi sx 169 x) := by
  intro q
  induction q with
  | zero =>
    intro j m m' A sx sm hj hm hm' hA NS B
    obtain ⟨m, rfl⟩ : ∃ k, m = k + 1 := ⟨m - 1, by omega⟩
    obtain ⟨m', rfl⟩ : ∃ k, m' = k + 1 := ⟨m' - 1, by omega⟩
    have c : ¬ Int32.ofNat j < (10 : Int32) := by rw [nb_lit 10, nn_lt (by omega) (by omega)]; omega
    have e10 : j = 10 := by omega
    rw [e10] at hA
    exact ⟨A, sx, hq_si sm 174 53 (-1), by omega, by simp only [f_X2_boldsOf_L12_s, f_X2_boldsOf_L12_B, if_neg c], by simp only [f_X12_boldsOf_L129_s, f_X12_boldsOf_L129_B, if_neg c, nn_pi, Option.bind_some], fun c x h1 h2 h3 => by rw [nb_ii, if_neg (fun z => by omega)], ⟨fun c x h1 h2 => by rw [nb_ii, if_neg (fun z => by omega)], fun x hx => by rw [nb_ii, if_neg (fun z => by omega)], fun c x h1 h2 => by rw [nb_ii, if_neg (fun z => by omega)]⟩, ⟨sm, B, ak_g_rf _⟩, fun _ _ => rfl, fun b h1 h2 => by omega, fun _ _ => rfl⟩
  | succ q ih =>
    intro j m m' A sx sm hj hm hm' hA NS B
    obtain ⟨m, rfl⟩ : ∃ k, m = k + 1 := ⟨m - 1, by omega⟩
    obtain ⟨m', rfl⟩ : ∃ k, m' = k + 1 := ⟨m' - 1, by omega⟩
    have c : Int32.ofNat j < (10 : Int32) := by rw [nb_lit 10, nn_lt (by omega) (by omega)]; omega
    have B0 := B
    obtain ⟨T, rf, S, F, M, n4, Mo, e53, I⟩ := B
    have ow : ∀ c x, ¬ (c = 174 ∧ x = 54) → hq_gi (hq_si sm 174 54 (Int32.ofNat j)) c x = hq_gi sm c x := fun c x h => by rw [nb_ii, if_neg h]
    have M0 : hl_M nl nc fr to on (hq_si sm 174 54 (Int32.ofNat j)) := by
      unfold hl_M at M ⊢
      simp (disch := omega) only [ow]
      exact M
    obtain ⟨sx1, sm1, e1, e2, P⟩ := hb_again (N := N) (i := i) (b := j) (sx := sx) (sm := hq_si sm 174 54 (Int32.ofNat j)) hN (hr_told_f t2 (fun _ _ _ => rfl) (fun _ _ _ => rfl) (fun c x h1 h2 => ow c x (by omega)) T) t2 rf S F M0 (by rw [ow _ _ (by omega)]; exact n4) (hh_M_f (fun _ => rfl) (ow _ _ (by omega)) (ow _ _ (by omega)) Mo) hi (by omega) (by rw [ow _ _ (by omega)]; exact e53) (by rw [nb_ii, if_pos ⟨rfl, rfl⟩])
    obtain ⟨s', z1, -, -, -, -, z2, -⟩ := st_all (N := N) (l := 1) (nc := nc) (s := hq_si sm 174 54 (Int32.ofNat j)) (by omega) (by omega) T.1.1 (by rw [ow _ _ (by omega)]; exact T.2.1.2.1)
    have z1 : f_X12_starts N 1 (hq_si sm 174 54 (Int32.ofNat j)) = some s' := z1
    rw [e2] at z1
    cases Option.some.inj z1
    have gm : ∀ c x, ¬ (c = 174 ∧ x = 54) → c < 196 ∨ 205 < c → hq_gi sm1 c x = hq_gi sm c x := fun c x h1 h2 => by rw [z2 c x h2, ow c x h1]
    obtain ⟨kx, y1, y2⟩ : ∃ s1, f_X5_copyFrom N 94 (t + 14) sx = some s1 ∧ hk_X 94 (t + 14) sx s1 := hk_copyFrom (by omega) sx
    have ex : ∀ c x, 163 ≤ c → c ≤ 169 → hq_gi sx1 c x = hq_gi sx c x := fun c x h1 h2 => by
      have iN : hq_isN 94 := by decide
      have st : hq_st kx 100 4 (Int32.ofNat i) (Int32.ofNat j) = some (hq_si kx 100 i (Int32.ofNat j)) := nn_st (by have := T.1.2.2.2; omega) (by omega)
      have r2 : hq_gr kx 113 2 = 94 := by rw [y2.2.2.1]; exact rf.2.2
      simp only [f_X3_restart, rf.2.2, if_pos iN, y1, Option.bind_some, r2, Nat.reduceAdd, st] at e1
      rw [← Option.some.inj e1, nb_ii, if_neg (fun z => by omega)]
      exact y2.1 c x (by omega)
    have I1 := bo_I_k (sm' := sm1) (fun c x h1 h2 => ex c x h1 (by omega)) (gm _ _ (by omega) (by omega)) (gm _ _ (by omega) (by omega)) (fun c x h1 h2 => gm c x (by omega) (by omega)) I
    obtain ⟨b, sx2, sm2, smg, f1, f2, f3, -, f5, f6, f7, f8, f9, f10, f11⟩ := bo_run2 (N := N) (q12 := f_X2_boldsOf_L12 N m) (i := i) (k3 := t + 14) (bo := j) (a := a) (a' := 60) (a6 := Int32.ofNat A) hN hi (by omega) ha (Nat.le_refl _) 60 1 N N sx1 sm1 (by omega) (by omega) (by omega) (by omega) (fun x hx ht h h1 h2 => by rw [gm _ _ (by omega) (by omega)]; exact NS x hx ht h h1 h2) P I1
    have B2 : bo_B nc nl ng nt t k K i fr to on li sx2 sm2 := bo_B_of t2 f5 f6 f7 (by rw [f8.2.1 _ (by omega), gm _ _ (by omega) (by omega)]; exact n4) (by rw [f8.2.1 _ (by omega), gm _ _ (by omega) (by omega)]; exact e53)
    have gg : ak_g sm sm2 := ak_g_tr ⟨fun c x h1 h2 => gm c x (by omega) (by omega), fun x hx => gm 174 x (by omega) (by omega), fun c x h1 h2 => gm c x (by omega) (by omega)⟩ (ak_g_of f8)
    have f3 : f_X12_fitsBold_L7 N N (Int32.ofNat a) 1 sm1 = some (b, sm2) := f3 (by omega)
    have fb : f_X12_fitsBold N (Int32.ofNat a) (hq_si sm 174 54 (Int32.ofNat j)) = some (b, sm2) := by simp only [f_X12_fitsBold, e2, Option.bind_some, f3]
    have f2 : f_X2_boldsOf_L33 N (f_X2_boldsOf_L12 N m) N (Int32.ofNat i) (t + 14) 60 (Int32.ofNat (sd li K K).2) (Int32.ofNat A) (Int32.ofNat j) 1 1 sx1 = f_X2_boldsOf_L12 N m (Int32.ofNat i) (t + 14) 60 (Int32.ofNat (sd li K K).2) (Int32.ofNat A ||| (if b = 0 then 0 else Int32.ofNat (2 ^ j))) (Int32.ofNat (j + 1)) sx2 := f2
    have pj : (2 : Nat) ^ (j + 1) = 2 ^ j + 2 ^ j := by rw [Nat.pow_succ]; omega
    have sA : f_X2_boldsOf_L12 N (m + 1) (Int32.ofNat i) (t + 14) 60 (Int32.ofNat (sd li K K).2) (Int32.ofNat A) (Int32.ofNat j) sx = f_X2_boldsOf_L12 N m (Int32.ofNat i) (t + 14) 60 (Int32.ofNat (sd li K K).2) (Int32.ofNat A ||| (if b = 0 then 0 else Int32.ofNat (2 ^ j))) (Int32.ofNat (j + 1)) sx2 := by
      rw [← f2]
      simp only [f_X2_boldsOf_L12_s, f_X2_boldsOf_L12_B, if_pos c, e1, Option.bind_some]
    have sB : f_X12_boldsOf_L129 N (m' + 1) (Int32.ofNat i) (Int32.ofNat a) (Int32.ofNat A) (Int32.ofNat j) sm = f_X12_boldsOf_L129 N m' (Int32.ofNat i) (Int32.ofNat a) (Int32.ofNat A ||| (if b = 0 then 0 else Int32.ofNat (2 ^ j))) (Int32.ofNat (j + 1)) sm2 := by
      by_cases q0 : b = 0
      · simp only [f_X12_boldsOf_L129_s, f_X12_boldsOf_L129_B, if_pos c, nn_pi, Option.bind_some, fb, if_pos q0, nn_succ]
      · simp only [f_X12_boldsOf_L129_s, f_X12_boldsOf_L129_B, if_pos c, nn_pi, Option.bind_some, fb, if_neg q0, nb_one (show j < 32 by omega), nn_succ]
    have oo : hm_o 1 sm sm2 := fun c x h1 h2 h3 => (f9 c x h1 h2 h3).trans (ow c x (by omega))
    have NS2 : ∀ x, x < k → (sd li K K).2.testBit x = true → ∀ h, a < h → h ≤ 60 → ¬ hq_gi sm2 224 x = Int32.ofNat h := fun x hx ht h h1 h2 => by rw [gg.2.2 _ _ (by omega) (by omega)]; exact NS x hx ht h h1 h2
    rcases f1 with rfl | rfl
    · rw [if_pos rfl, nb_0, nb_or, Nat.or_zero] at sA sB
      obtain ⟨V, sx', sm', v0, g1, g2, g3, g4, ⟨smz, g5, g6⟩, g7, g8, g9⟩ := ih (j + 1) m m' A sx2 sm2 (by omega) (by omega) (by omega) (by omega) NS2 B2
      refine ⟨V, sx', sm', v0, sA.trans g1, sB.trans g2, hm_o_tr oo g3, ak_g_tr gg g4, ⟨smz, g5, ak_g_tr gg g6⟩, fun b hb => g7 b (by omega), fun b h1 h2 h3 => ?_, fun x hx => ?_⟩
      · by_cases e : b = j
        · rw [g7 b (by omega), e, Nat.testBit_lt_two_pow hA] at h3
          cases h3
        · obtain ⟨sxb, smb, s1, s2, k1, k2, k3⟩ := g8 b (by omega) h2 h3
          exact ⟨sxb, smb, s1, s2, k1, ak_g_tr gg k2, k3⟩
      · rw [g9 x (by omega), f11 x (by omega), ex _ _ (by omega) (by omega)]
    · rw [if_neg (by decide), nb_or] at sA sB
      obtain ⟨V, sx', sm', v0, g1, g2, g3, g4, ⟨smz, g5, g6⟩, g7, g8, g9⟩ := ih (j + 1) m m' (A ||| 2 ^ j) sx2 sm2 (by omega) (by omega) (by omega) (Nat.or_lt_two_pow (by omega) (by have : 0 < 2 ^ j := Nat.two_pow_pos j; omega)) NS2 B2
      refine ⟨V, sx', sm', v0, sA.trans g1, sB.trans g2, hm_o_tr oo g3, ak_g_tr gg g4, ⟨smz, g5, ak_g_tr gg g6⟩, fun b hb => ?_, fun b h1 h2 h3 => ?_, fun x hx => ?_⟩
      · rw [g7 b (by omega), Nat.testBit_or, nb_2p, decide_eq_false (by omega), Bool.or_false]
      · by_cases e : b = j
        · rw [e]
          exact ⟨sx, sm, sx1, sx2, B0, ak_g_rf _, e1, f10 rfl, fun h hh => g9 _ (by omega)⟩
        · obtain ⟨sxb, smb, s1, s2, k1, k2, k3⟩ := g8 b (by omega) h2 h3
          exact ⟨sxb, smb, s1, s2, k1, ak_g_tr gg k2, k3⟩
      · rw [g9 x (by omega), f11 x (by omega), ex _ _ (by omega) (by omega)]
end
