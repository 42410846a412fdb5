/-! ASK: the reference's hours of ten boldnesses, and what to ask -/
section
variable {N nc nl ng nt t bar k K : Nat} {fr to on : Nat → Nat} {both : Bool} {li : Nat → Option Nat} {o sx sm sr : hq_S} {HC : hq_S → Prop}
theorem hh_P_230 {l u q : Nat} {bn : Int32} {x : Nat} {v : Int32} (P : hh_P nc nl ng nt t u q l fr to on bar both bn o sx sm) : hh_P nc nl ng nt t u q l fr to on bar both bn o sx (hq_si sm 230 x v) := by
  have em : ∀ c i, ¬ c = 230 → hq_gi (hq_si sm 230 x v) c i = hq_gi sm c i := fun c i h => by rw [nb_ii, if_neg (fun z => h z.1)]
  obtain ⟨T, ⟨t2, u2, k2⟩, rf, X, F, ⟨M, B, Bl, bo⟩, W, Mo, O⟩ := P
  have b := T.1
  refine ⟨hr_told_f t2 (fun _ _ _ => rfl) (fun _ _ _ => rfl) (fun c i h1 h2 => em c i (by omega)) T, ⟨t2, u2, k2⟩, rf, X, F, ⟨?_, by rw [em _ _ (by omega)]; exact B, Bl, by rw [em _ _ (by omega)]; exact bo⟩, ?_, hh_M_f (fun _ => rfl) (em _ _ (by omega)) (em _ _ (by omega)) Mo, fun c i h1 h2 h3 => (em c i (by omega)).trans (O c i h1 h2 h3)⟩
  · unfold hl_M at M ⊢
    simp (disch := decide) only [em]
    exact M
  · exact hn_N_k (sx := sx) (sm := sm) b.1 b.2.2.1 b.2.2.2 (fun _ _ _ _ => rfl) rfl (fun c i h => em c i (by unfold hm_sl at h; omega)) (fun i => em _ _ (by omega)) (fun i _ => by
      unfold hn_bold
      rw [em 174 53 (by omega), em 174 54 (by omega), em 189 i (by omega)]) W
theorem ak_59 {q38 : Int32 → Int32 → Int32 → Int32 → hq_S → Option (Int32 × hq_S)} {i bo : Nat} {a2 a3 : Int32} (hN : 100 < N) (hi : i < nt) (hbo : bo < 10) : ∀ (q j m : Nat) (sx sr : hq_S), 1 ≤ j → j + q = 61 → q < m → hh_P nc nl ng nt t 108 94 1 fr to on bar both 0 o sx sr → ∃ sr', f_X12_ask_L59 N q38 m (Int32.ofNat i) a2 a3 (Int32.ofNat bo) (Int32.ofNat j) sr = q38 (Int32.ofNat i) a2 a3 (Int32.ofNat (bo + 1)) sr' ∧ (∀ x, ¬ (61 * bo + j ≤ x ∧ x ≤ 61 * bo + 60) → hq_gi sr' 230 x = hq_gi sr 230 x) ∧ bo_g sr sr' ∧ hm_o 1 o sr' ∧ ∀ sx2, ak_ch N i bo q j sx sx2 → (∀ x, x < 61 * bo + j → hq_gi sx2 169 x = hq_gi sx 169 x) ∧ ∀ h, j ≤ h → h ≤ 60 → hq_gi sr' 230 (61 * bo + h) = hq_gi sx2 169 (61 * bo + h) := by
  intro q
  induction q with
  | zero =>
    intro j m sx sr h1j hj hm P
    obtain ⟨m, rfl⟩ : ∃ k, m = k + 1 := ⟨m - 1, by omega⟩
    have c : (60 : Int32) < Int32.ofNat j := by rw [nb_lit 60, nn_lt (by omega) (by omega)]; omega
    refine ⟨sr, by simp only [f_X12_ask_L59_s, f_X12_ask_L59_B, if_pos c, nn_succ], fun _ _ => rfl, bo_g_rf _, P.2.2.2.2.2.2.2.2, fun sx2 h => ?_⟩
    have h : sx2 = sx := h
    rw [h]
    exact ⟨fun _ _ => rfl, fun h h1 h2 => by omega⟩
  | succ q ih =>
    intro j m sx sr h1j hj hm P
    obtain ⟨m, rfl⟩ : ∃ k, m = k + 1 := ⟨m - 1, by omega⟩
    have c : ¬ (60 : Int32) < Int32.ofNat j := by rw [nb_lit 60, nn_lt (by omega) (by omega)]; omega
    obtain ⟨sx1, sr1, e1, e2, P1⟩ := hh_pass (N := N) hN (by omega) P
    have e2 : f_X12_passes N 1 0 sr = some sr1 := e2
    have nt4 := P1.1.1.2.2.2
    have had : hq_gi sx1 101 i = hq_gi sr1 204 (4 + i) := (P1.2.2.2.2.2.2.1.2.2.2.2.2.2.1 i hi).2.2.1
    have ld : hq_ld sr1 204 92 (Int32.ofNat (4 + i)) = some (hq_gi sr1 204 (4 + i)) := nn_ld (by omega) (by omega)
    have st : hq_st sr1 230 610 (Int32.ofNat (61 * bo + j)) (hq_gi sr1 204 (4 + i)) = some (hq_si sr1 230 (61 * bo + j) (hq_gi sr1 204 (4 + i))) := nn_st (by omega) (by omega)
    have g1 := bo_gp e2
    have m30 : ∀ x, hq_gi sr1 230 x = hq_gi sr 230 x := fun x => (((f_X12_passes_fw e2).kp (D := [(230, none)]) (by decide)) 230 x (hq_inA_spec (by decide) x)).1
    have k9 : ∀ x, hq_gi sx1 169 x = hq_gi sx 169 x := fun x => (((f_X3_pass_fw (Or.inr rfl) P.2.2.1.2.2 e1).kp (D := [(169, none)]) (by decide)) 169 x (hq_inA_spec (by decide) x)).1
    have a4 : (4 : Int32) + Int32.ofNat i = Int32.ofNat (4 + i) := nb_add 4 i
    obtain ⟨sr', f1, f2, f3, f4, f5⟩ := ih (j + 1) m _ _ (by omega) (by omega) (by omega) (hh_P_230 (x := 61 * bo + j) (v := hq_gi sr1 204 (4 + i)) (hh_P_9 (x := 61 * bo + j) (v := hq_gi sx1 101 i) P1))
    have ow : ∀ c x, ¬ c = 230 → hq_gi (hq_si sr1 230 (61 * bo + j) (hq_gi sr1 204 (4 + i))) c x = hq_gi sr1 c x := fun c x h => by rw [nb_ii, if_neg (fun z => h z.1)]
    refine ⟨sr', ?_, fun x hx => ?_, bo_g_tr g1 (bo_g_tr ⟨fun c x h1 h2 => ow c x (by omega), fun x hx => ow _ _ (by omega), fun c x h1 h2 => ow c x (by omega)⟩ f3), f4, fun sx2 h => ?_⟩
    · rw [← f1]
      simp only [f_X12_ask_L59_s, f_X12_ask_L59_B, if_neg c, e2, a4, ld, nb_m61, nb_add, st, Option.bind_some, nn_succ]
    · rw [f2 x (by omega), nb_ii, if_neg (fun z => by omega), m30]
    · obtain ⟨s1, y1, y2⟩ := h
      rw [e1] at y1
      cases Option.some.inj y1
      obtain ⟨z1, z2⟩ := f5 sx2 y2
      refine ⟨fun x hx => ?_, fun h h1 h2 => ?_⟩
      · rw [z1 x (by omega), nb_ii, if_neg (fun z => by omega), k9]
      · by_cases e : h = j
        · rw [e, f2 _ (by omega), z1 _ (by omega), nb_ii, if_pos ⟨rfl, rfl⟩, nb_ii, if_pos ⟨rfl, rfl⟩, had]
        · exact z2 h (by omega) h2
theorem bo_B_g {i : Nat} (t2 : t = 2 ∨ t = 25) (g : ak_g sm sr) (e53 : hq_gi sr 174 53 = Int32.ofNat i) (B : bo_B nc nl ng nt t k K i fr to on li sx sm) : bo_B nc nl ng nt t k K i fr to on li sx sr := by
  obtain ⟨T, rf, S, F, M, n4, Mo, -, I⟩ := B
  refine ⟨hr_told_f t2 (fun _ _ _ => rfl) (fun _ _ _ => rfl) g.1 T, rf, S, F, ?_, by rw [g.2.1 49 (by omega)]; exact n4, hh_M_f (fun _ => rfl) (g.2.1 49 (by omega)) (g.2.1 50 (by omega)) Mo, e53, bo_I_k (fun _ _ _ _ => rfl) (g.2.1 74 (by omega)) (g.2.1 75 (by omega)) g.2.2 I⟩
  have em := g.1
  unfold hl_M at M ⊢
  simp (disch := decide) only [em]
  exact M
theorem ak_one {q38 : Int32 → Int32 → Int32 → Int32 → hq_S → Option (Int32 × hq_S)} {i j : Nat} {a2 a3 : Int32} (hN : 100 < N) (t2 : t = 2 ∨ t = 25) (hi : i < nt) (hj : j < 10) (B : bo_B nc nl ng nt t k K i fr to on li sx sr) : ∃ s1 sr', f_X12_starts N 1 (hq_si sr 174 54 (Int32.ofNat j)) = some s1 ∧ f_X12_ask_L59 N q38 N (Int32.ofNat i) a2 a3 (Int32.ofNat j) 1 s1 = q38 (Int32.ofNat i) a2 a3 (Int32.ofNat (j + 1)) sr' ∧ (∀ x, ¬ (61 * j + 1 ≤ x ∧ x ≤ 61 * j + 60) → hq_gi sr' 230 x = hq_gi sr 230 x) ∧ ak_g sr sr' ∧ hq_gi sr' 174 53 = Int32.ofNat i ∧ hm_o 1 sr sr' ∧ ∀ sx1 sx2, f_X3_restart N (t + 14) (Int32.ofNat i) (Int32.ofNat j) sx = some sx1 → ak_ch N i j 60 1 sx1 sx2 → ∀ h, 1 ≤ h → h ≤ 60 → hq_gi sr' 230 (61 * j + h) = hq_gi sx2 169 (61 * j + h) := by
  obtain ⟨T, rf, S, F, M, n4, Mo, e53, I⟩ := B
  have ow : ∀ c x, ¬ (c = 174 ∧ x = 54) → hq_gi (hq_si sr 174 54 (Int32.ofNat j)) c x = hq_gi sr c x := fun c x h => by rw [nb_ii, if_neg h]
  have M0 : hl_M nl nc fr to on (hq_si sr 174 54 (Int32.ofNat j)) := by
    unfold hl_M at M ⊢
    simp (disch := omega) only [ow]
    exact M
  obtain ⟨sx1, sm1, e1, e2, P⟩ := hb_again (N := N) (i := i) (b := j) (sx := sx) (sm := hq_si sr 174 54 (Int32.ofNat j)) hN (hr_told_f t2 (fun _ _ _ => rfl) (fun _ _ _ => rfl) (fun c x h1 h2 => ow c x (by omega)) T) t2 rf S F M0 (by rw [ow _ _ (by omega)]; exact n4) (hh_M_f (fun _ => rfl) (ow _ _ (by omega)) (ow _ _ (by omega)) Mo) hi (by omega) (by rw [ow _ _ (by omega)]; exact e53) (by rw [nb_ii, if_pos ⟨rfl, rfl⟩])
  obtain ⟨s', z1, -, -, -, -, z2, -⟩ := st_all (N := N) (l := 1) (nc := nc) (s := hq_si sr 174 54 (Int32.ofNat j)) (by omega) (by omega) T.1.1 (by rw [ow _ _ (by omega)]; exact T.2.1.2.1)
  have z1 : f_X12_starts N 1 (hq_si sr 174 54 (Int32.ofNat j)) = some s' := z1
  rw [e2] at z1
  cases Option.some.inj z1
  have gm : ∀ c x, ¬ (c = 174 ∧ x = 54) → c < 196 ∨ 205 < c → hq_gi sm1 c x = hq_gi sr c x := fun c x h1 h2 => by rw [z2 c x h2, ow c x h1]
  obtain ⟨sr', f1, f2, f3, f4, f5⟩ := ak_59 (N := N) (q38 := q38) (i := i) (bo := j) (a2 := a2) (a3 := a3) hN hi hj 60 1 N sx1 sm1 (by omega) (by omega) (by omega) P
  refine ⟨sm1, sr', e2, f1, fun x hx => by rw [f2 x hx, gm _ _ (by omega) (by omega)], ak_g_tr ⟨fun c x h1 h2 => gm c x (by omega) (by omega), fun x hx => gm 174 x (by omega) (by omega), fun c x h1 h2 => gm c x (by omega) (by omega)⟩ (ak_g_of f3), ?_, fun c x h1 h2 h3 => (f4 c x h1 h2 h3).trans (ow c x (by omega)), fun s1 s2 y1 y2 h h1 h2 => ?_⟩
  · rw [f3.2.1 53 (by omega), gm _ _ (by omega) (by omega)]; exact e53
  · rw [e1] at y1
    cases Option.some.inj y1
    exact (f5 s2 y2).2 h h1 h2
theorem ak_38 {i V : Nat} {a2 : Int32} {sxe smz : hq_S} (hN : 100 < N) (t2 : t = 2 ∨ t = 25) (hi : i < nt) (Z : bo_B nc nl ng nt t k K i fr to on li sxe smz) (Zg : ak_g sm smz) (Tt : ∀ b, b < 10 → V.testBit b = true → ak_T N nc nl ng nt t k K i fr to on li sxe sm b) : ∀ (q j m : Nat) (sr : hq_S), j + q = 10 → q < m → ak_g sm sr → hq_gi sr 174 53 = Int32.ofNat i → ∃ sr', f_X12_ask_L38 N m (Int32.ofNat i) a2 (Int32.ofNat V) (Int32.ofNat j) sr = f_X12_ask_L116 N N (Int32.ofNat i) a2 (Int32.ofNat V) 1 2 (hq_si sr' 174 53 (-1)) ∧ (∀ x, x ≤ 61 * j → hq_gi sr' 230 x = hq_gi sr 230 x) ∧ hm_o 1 sr sr' ∧ ∀ b, j ≤ b → b < 10 → V.testBit b = true → ∀ h, 1 ≤ h → h ≤ 60 → hq_gi sr' 230 (61 * b + h) = hq_gi sxe 169 (61 * b + h) := by
  intro q
  induction q with
  | zero =>
    intro j m sr hj hm g e53
    obtain ⟨m, rfl⟩ : ∃ k, m = k + 1 := ⟨m - 1, by omega⟩
    have c : ¬ Int32.ofNat j < (10 : Int32) := by rw [nb_lit 10, nn_lt (by omega) (by omega)]; omega
    exact ⟨sr, by simp only [f_X12_ask_L38_s, f_X12_ask_L38_B, if_neg c, nn_pi, Option.bind_some], fun _ _ => rfl, fun _ _ _ _ _ => rfl, fun b h1 h2 => by omega⟩
  | succ q ih =>
    intro j m sr hj hm g e53
    obtain ⟨m, rfl⟩ : ∃ k, m = k + 1 := ⟨m - 1, by omega⟩
    have c : Int32.ofNat j < (10 : Int32) := by rw [nb_lit 10, nn_lt (by omega) (by omega)]; omega
    obtain ⟨sxb, B, hv⟩ : ∃ sxb, bo_B nc nl ng nt t k K i fr to on li sxb sr ∧ (V.testBit j = true → ∃ sx1 sx2, f_X3_restart N (t + 14) (Int32.ofNat i) (Int32.ofNat j) sxb = some sx1 ∧ ak_ch N i j 60 1 sx1 sx2 ∧ ∀ h, h ≤ 60 → hq_gi sxe 169 (61 * j + h) = hq_gi sx2 169 (61 * j + h)) := by
      by_cases q1 : V.testBit j = true
      · obtain ⟨sxb, smb, sx1, sx2, k1, k2, k3, k4, k5⟩ := Tt j (by omega) q1
        exact ⟨sxb, bo_B_g t2 (ak_g_tr (ak_g_sy k2) g) e53 k1, fun _ => ⟨sx1, sx2, k3, k4, k5⟩⟩
      · exact ⟨sxe, bo_B_g t2 (ak_g_tr (ak_g_sy Zg) g) e53 Z, fun h => absurd h q1⟩
    obtain ⟨s1, sr1, f1, f2, f3, f4, f5, f6, f7⟩ := ak_one (N := N) (q38 := f_X12_ask_L38 N m) (a2 := a2) (a3 := Int32.ofNat V) hN t2 hi (show j < 10 by omega) B
    obtain ⟨sr', g1, g2, g3, g4⟩ := ih (j + 1) m sr1 (by omega) (by omega) (ak_g_tr g f4) f5
    refine ⟨sr', ?_, fun x hx => ?_, hm_o_tr f6 g3, fun b h1 h2 h3 h h4 h5 => ?_⟩
    · rw [← g1, ← f2]
      simp only [f_X12_ask_L38_s, f_X12_ask_L38_B, if_pos c, nn_pi, Option.bind_some, f1]
    · rw [g2 x (by omega), f3 x (by omega)]
    · by_cases e : b = j
      · rw [e] at h3 ⊢
        obtain ⟨sx1, sx2, y1, y2, y3⟩ := hv h3
        rw [g2 _ (by omega), f7 sx1 sx2 y1 y2 h h4 h5, y3 h h5]
      · exact g4 b (by omega) h2 h3 h h4 h5
/-! the most left at worst -/
def ak_n (V : Nat) (H : Nat → Int32) (b : Nat) : Nat → Nat
  | 0 => 0
  | o + 1 => ak_n V H b o + (if V.testBit o = true then (if H o = H b then 1 else 0) else 0)
def ak_w (V : Nat) (H : Nat → Int32) : Nat → Nat
  | 0 => 0
  | b + 1 => if V.testBit b = true then max (ak_w V H b) (ak_n V H b 10) else ak_w V H b
theorem ak_n_le (V : Nat) (H : Nat → Int32) (b : Nat) : ∀ o, ak_n V H b o ≤ o
  | 0 => Nat.le_refl _
  | o + 1 => by
    have := ak_n_le V H b o
    rw [ak_n]
    split
    · split <;> omega
    · omega
theorem ak_w_le (V : Nat) (H : Nat → Int32) : ∀ b, ak_w V H b ≤ 10
  | 0 => by rw [ak_w]; omega
  | b + 1 => by
    have := ak_w_le V H b
    have := ak_n_le V H b 10
    rw [ak_w]
    split <;> omega
theorem wl_X {V h : Nat} {H : Nat → Int32} {s : hq_S} (hN : 100 < N) (hV : V < 1024) (hh : h ≤ 60) (E : ∀ b, b < 10 → V.testBit b = true → hq_gi s 169 (61 * b + h) = H b) : f_X2_worstLeft N (Int32.ofNat h) (Int32.ofNat V) s = some (Int32.ofNat (ak_w V H 10), s) := by
  have d10 : ¬ (1 : Int32) = 0 := by decide
  have p0 : ∀ n : Nat, Int32.ofNat n + 0 = Int32.ofNat n := fun n => nb_add n 0
  have p1 : ∀ n : Nat, Int32.ofNat n + 1 = Int32.ofNat (n + 1) := fun n => nb_add n 1
  have L : ∀ b, b < 10 → hq_ld s 169 610 (Int32.ofNat (61 * b + h)) = some (hq_gi s 169 (61 * b + h)) := fun b hb => nn_ld (by omega) (by omega)
  have inner : ∀ (q5 : Int32 → Int32 → Int32 → Int32 → hq_S → Option (Int32 × hq_S)) (b : Nat) (w : Int32), b < 10 → ∀ (q o m : Nat), o + q = 10 → q < m → f_X2_worstLeft_L18 N q5 m (Int32.ofNat h) (Int32.ofNat V) w (Int32.ofNat b) (Int32.ofNat (if V.testBit b = true then ak_n V H b o else 0)) (Int32.ofNat o) s = q5 (Int32.ofNat h) (Int32.ofNat V) (hq_max w (Int32.ofNat (if V.testBit b = true then ak_n V H b 10 else 0))) (Int32.ofNat (b + 1)) s := by
    intro q5 b w hb q
    induction q with
    | zero =>
      intro o m ho hm
      obtain ⟨m, rfl⟩ : ∃ k, m = k + 1 := ⟨m - 1, by omega⟩
      have ho : o = 10 := by omega
      have c : ¬ Int32.ofNat o < (10 : Int32) := by rw [nb_lit 10, nn_lt (by omega) (by omega)]; omega
      simp only [f_X2_worstLeft_L18_s, f_X2_worstLeft_L18_B, if_neg c, nn_succ]
      rw [ho]
    | succ q ih =>
      intro o m ho hm
      obtain ⟨m, rfl⟩ : ∃ k, m = k + 1 := ⟨m - 1, by omega⟩
      have c : Int32.ofNat o < (10 : Int32) := by rw [nb_lit 10, nn_lt (by omega) (by omega)]; omega
      have b1 := nb_bit1 (show V < 2147483648 by omega) (show b < 32 by omega)
      have b2 := nb_bit1 (show V < 2147483648 by omega) (show o < 32 by omega)
      rw [← ih (o + 1) m (by omega) (by omega)]
      by_cases q1 : V.testBit b = true
      · by_cases q2 : V.testBit o = true
        · have x1 := E b hb q1
          have x2 := E o (by omega) q2
          by_cases q3 : H o = H b
          · have q3' : H b = H o := q3.symm
            simp only [f_X2_worstLeft_L18_s, f_X2_worstLeft_L18_B, f_X2_hadIn, if_pos c, b1, b2, if_pos q1, if_pos q2, if_neg d10, Option.bind_some, nb_61m, nb_add, L b hb, L o (by omega), x1, x2, if_pos q3', nn_succ, p1, ak_n, if_pos q3]
          · have q3' : ¬ H b = H o := fun z => q3 z.symm
            simp only [f_X2_worstLeft_L18_s, f_X2_worstLeft_L18_B, f_X2_hadIn, if_pos c, b1, b2, if_pos q1, if_pos q2, if_neg d10, Option.bind_some, nb_61m, nb_add, L b hb, L o (by omega), x1, x2, if_neg q3', nn_succ, p0, ak_n, if_neg q3, Nat.add_zero]
        · simp only [f_X2_worstLeft_L18_s, f_X2_worstLeft_L18_B, if_pos c, b1, b2, if_pos q1, if_neg q2, if_true, Option.bind_some, nn_succ, p0, ak_n, Nat.add_zero]
      · simp only [f_X2_worstLeft_L18_s, f_X2_worstLeft_L18_B, if_pos c, b1, if_neg q1, if_true, Option.bind_some, nn_succ, p0]
  have outer : ∀ (q b m : Nat), b + q = 10 → q < m → f_X2_worstLeft_L5 N m (Int32.ofNat h) (Int32.ofNat V) (Int32.ofNat (ak_w V H b)) (Int32.ofNat b) s = some (Int32.ofNat (ak_w V H 10), s) := by
    intro q
    induction q with
    | zero =>
      intro b m hb hm
      obtain ⟨m, rfl⟩ : ∃ k, m = k + 1 := ⟨m - 1, by omega⟩
      have hb : b = 10 := by omega
      have c : ¬ Int32.ofNat b < (10 : Int32) := by rw [nb_lit 10, nn_lt (by omega) (by omega)]; omega
      simp only [f_X2_worstLeft_L5_s, f_X2_worstLeft_L5_B, if_neg c]
      rw [hb]
    | succ q ih =>
      intro b m hb hm
      obtain ⟨m, rfl⟩ : ∃ k, m = k + 1 := ⟨m - 1, by omega⟩
      have c : Int32.ofNat b < (10 : Int32) := by rw [nb_lit 10, nn_lt (by omega) (by omega)]; omega
      have i0 := inner (f_X2_worstLeft_L5 N m) b (Int32.ofNat (ak_w V H b)) (by omega) 10 0 N (by omega) (by omega)
      have z0 : (if V.testBit b = true then ak_n V H b 0 else 0) = 0 := by split <;> rfl
      rw [z0] at i0
      have i0 : f_X2_worstLeft_L18 N (f_X2_worstLeft_L5 N m) N (Int32.ofNat h) (Int32.ofNat V) (Int32.ofNat (ak_w V H b)) (Int32.ofNat b) 0 0 s = _ := i0
      have w1 := ak_w_le V H b
      have w2 := ak_n_le V H b 10
      rw [← ih (b + 1) m (by omega) (by omega), ak_w]
      simp only [f_X2_worstLeft_L5_s, f_X2_worstLeft_L5_B, if_pos c]
      rw [i0, nb_max (by omega) (by split <;> omega)]
      by_cases q1 : V.testBit b = true
      · rw [if_pos q1, if_pos q1]
      · rw [if_neg q1, if_neg q1, Nat.max_zero]
  exact outer 10 0 N (by omega) (by omega)
theorem wl_M {V h : Nat} {H : Nat → Int32} {s : hq_S} (hN : 100 < N) (hV : V < 1024) (hh : h ≤ 60) (E : ∀ b, b < 10 → hq_gi s 230 (61 * b + h) = H b) : f_X12_worstAt N (Int32.ofNat V) (Int32.ofNat h) s = some (Int32.ofNat (ak_w V H 10), s) := by
  have p0 : ∀ n : Nat, Int32.ofNat n + 0 = Int32.ofNat n := fun n => nb_add n 0
  have p1 : ∀ n : Nat, Int32.ofNat n + 1 = Int32.ofNat (n + 1) := fun n => nb_add n 1
  have L : ∀ b, b < 10 → hq_ld s 230 610 (Int32.ofNat (61 * b + h)) = some (H b) := fun b hb => by rw [nn_ld (by omega) (by omega), E b hb]
  have inner : ∀ (q5 : Int32 → Int32 → Int32 → Int32 → hq_S → Option (Int32 × hq_S)) (b w : Nat), b < 10 → w ≤ 10 → ∀ (q o m : Nat), o + q = 10 → q < m → f_X12_worstAt_L18 N q5 m (Int32.ofNat V) (Int32.ofNat h) (Int32.ofNat w) (Int32.ofNat b) (Int32.ofNat (ak_n V H b o)) (Int32.ofNat o) s = q5 (Int32.ofNat V) (Int32.ofNat h) (Int32.ofNat (if V.testBit b = true then max w (ak_n V H b 10) else w)) (Int32.ofNat (b + 1)) s := by
    intro q5 b w hb hw q
    induction q with
    | zero =>
      intro o m ho hm
      obtain ⟨m, rfl⟩ : ∃ k, m = k + 1 := ⟨m - 1, by omega⟩
      have ho : o = 10 := by omega
      have c : ¬ Int32.ofNat o < (10 : Int32) := by rw [nb_lit 10, nn_lt (by omega) (by omega)]; omega
      have b1 := nb_bit1 (show V < 2147483648 by omega) (show b < 32 by omega)
      have w2 := ak_n_le V H b 10
      have mx : hq_max (Int32.ofNat w) (Int32.ofNat (ak_n V H b o)) = Int32.ofNat (max w (ak_n V H b 10)) := by rw [ho, nb_max (by omega) (by omega)]
      by_cases q1 : V.testBit b = true
      · simp only [f_X12_worstAt_L18_s, f_X12_worstAt_L18_B, if_neg c, b1, if_pos q1, mx, Option.bind_some, nn_succ]
      · simp only [f_X12_worstAt_L18_s, f_X12_worstAt_L18_B, if_neg c, b1, if_neg q1, Option.bind_some, nn_succ]
    | succ q ih =>
      intro o m ho hm
      obtain ⟨m, rfl⟩ : ∃ k, m = k + 1 := ⟨m - 1, by omega⟩
      have c : Int32.ofNat o < (10 : Int32) := by rw [nb_lit 10, nn_lt (by omega) (by omega)]; omega
      have b2 := nb_bit1 (show V < 2147483648 by omega) (show o < 32 by omega)
      rw [← ih (o + 1) m (by omega) (by omega)]
      by_cases q2 : V.testBit o = true
      · by_cases q3 : H o = H b
        · simp only [f_X12_worstAt_L18_s, f_X12_worstAt_L18_B, if_pos c, b2, if_pos q2, Option.bind_some, nb_m61, nb_add, L b hb, L o (by omega), nn_succ, p1, ak_n, if_pos q3]
        · simp only [f_X12_worstAt_L18_s, f_X12_worstAt_L18_B, if_pos c, b2, if_pos q2, Option.bind_some, nb_m61, nb_add, L b hb, L o (by omega), nn_succ, p0, ak_n, if_neg q3, Nat.add_zero]
      · simp only [f_X12_worstAt_L18_s, f_X12_worstAt_L18_B, if_pos c, b2, if_neg q2, Option.bind_some, nn_succ, p0, ak_n, Nat.add_zero]
  have outer : ∀ (q b m : Nat), b + q = 10 → q < m → f_X12_worstAt_L5 N m (Int32.ofNat V) (Int32.ofNat h) (Int32.ofNat (ak_w V H b)) (Int32.ofNat b) s = some (Int32.ofNat (ak_w V H 10), s) := by
    intro q
    induction q with
    | zero =>
      intro b m hb hm
      obtain ⟨m, rfl⟩ : ∃ k, m = k + 1 := ⟨m - 1, by omega⟩
      have hb : b = 10 := by omega
      have c : ¬ Int32.ofNat b < (10 : Int32) := by rw [nb_lit 10, nn_lt (by omega) (by omega)]; omega
      simp only [f_X12_worstAt_L5_s, f_X12_worstAt_L5_B, if_neg c]
      rw [hb]
    | succ q ih =>
      intro b m hb hm
      obtain ⟨m, rfl⟩ : ∃ k, m = k + 1 := ⟨m - 1, by omega⟩
      have c : Int32.ofNat b < (10 : Int32) := by rw [nb_lit 10, nn_lt (by omega) (by omega)]; omega
      have i0 := inner (f_X12_worstAt_L5 N m) b (ak_w V H b) (by omega) (ak_w_le V H b) 10 0 N (by omega) (by omega)
      have i0 : f_X12_worstAt_L18 N (f_X12_worstAt_L5 N m) N (Int32.ofNat V) (Int32.ofNat h) (Int32.ofNat (ak_w V H b)) (Int32.ofNat b) 0 0 s = _ := i0
      rw [← ih (b + 1) m (by omega) (by omega), ak_w, ← i0]
      simp only [f_X12_worstAt_L5_s, f_X12_worstAt_L5_B, if_pos c]
  exact outer 10 0 N (by omega) (by omega)
/-- the hour to ask about -/
theorem ch_17 {V : Nat} {i a2 : Int32} {H : Nat → Nat → Int32} {sr : hq_S} (hN : 100 < N) (hV : V < 1024) (Em : ∀ h b, b < 10 → hq_gi sr 230 (61 * b + h) = H h b) : ∀ (q j m m' be : Nat) (s : hq_S), j + q = 61 → q < m → q < m' → be ≤ 60 → (∀ h b, 1 ≤ h → h ≤ 60 → b < 10 → V.testBit b = true → hq_gi s 169 (61 * b + h) = H h b) → 1 ≤ j → hq_gi s 163 8 = Int32.ofNat be → hq_gi s 163 9 = Int32.ofNat (ak_w V (H be) 10) → ∃ s' be', f_X2_chooseQuestion_L17 N m (Int32.ofNat V) (Int32.ofNat j) s = some s' ∧ hq_gi s' 163 8 = Int32.ofNat be' ∧ hq_gi s' 163 9 = Int32.ofNat (ak_w V (H be') 10) ∧ f_X12_ask_L116 N m' i a2 (Int32.ofNat V) (Int32.ofNat be) (Int32.ofNat j) sr = some (if a2 = 0 then Int32.ofNat be' else Int32.ofNat (ak_w V (H be') 10), sr) := by
  intro q
  induction q with
  | zero =>
    intro j m m' be s hj hm hm' hbe Ex h1 e8 e9
    obtain ⟨m, rfl⟩ : ∃ k, m = k + 1 := ⟨m - 1, by omega⟩
    obtain ⟨m', rfl⟩ : ∃ k, m' = k + 1 := ⟨m' - 1, by omega⟩
    have c : (60 : Int32) < Int32.ofNat j := by rw [nb_lit 60, nn_lt (by omega) (by omega)]; omega
    have w := wl_M (N := N) (V := V) (h := be) (H := H be) (s := sr) hN hV hbe (fun b hb => Em be b hb)
    refine ⟨s, be, by simp only [f_X2_chooseQuestion_L17_s, f_X2_chooseQuestion_L17_B, if_pos c], e8, e9, ?_⟩
    by_cases q : a2 = 0
    · simp only [f_X12_ask_L116_s, f_X12_ask_L116_B, if_pos c, if_pos q]
    · simp only [f_X12_ask_L116_s, f_X12_ask_L116_B, if_pos c, if_neg q, w, Option.bind_some]
  | succ q ih =>
    intro j m m' be s hj hm hm' hbe Ex h1 e8 e9
    obtain ⟨m, rfl⟩ : ∃ k, m = k + 1 := ⟨m - 1, by omega⟩
    obtain ⟨m', rfl⟩ : ∃ k, m' = k + 1 := ⟨m' - 1, by omega⟩
    have c : ¬ (60 : Int32) < Int32.ofNat j := by rw [nb_lit 60, nn_lt (by omega) (by omega)]; omega
    have w1 := wl_M (N := N) (V := V) (h := be) (H := H be) (s := sr) hN hV hbe (fun b hb => Em be b hb)
    have w2 := wl_M (N := N) (V := V) (h := j) (H := H j) (s := sr) hN hV (by omega) (fun b hb => Em j b hb)
    have w3 := wl_X (N := N) (V := V) (h := j) (H := H j) (s := s) hN hV (by omega) (fun b hb => Ex j b h1 (by omega) hb)
    have l1 := ak_w_le V (H be) 10
    have l2 := ak_w_le V (H j) 10
    have n98 : ∀ (s : hq_S) (v : Int32), hq_gi (hq_si s 163 8 v) 163 9 = hq_gi s 163 9 := fun s v => by rw [nb_ii, if_neg (fun z => by omega)]
    have go : ∀ (be2 : Nat), be2 ≤ 60 → ∃ s' be', f_X2_chooseQuestion_L17 N m (Int32.ofNat V) (Int32.ofNat (j + 1)) (hq_si (hq_si s 163 8 (Int32.ofNat be2)) 163 9 (Int32.ofNat (ak_w V (H be2) 10))) = some s' ∧ hq_gi s' 163 8 = Int32.ofNat be' ∧ hq_gi s' 163 9 = Int32.ofNat (ak_w V (H be') 10) ∧ f_X12_ask_L116 N m' i a2 (Int32.ofNat V) (Int32.ofNat be2) (Int32.ofNat (j + 1)) sr = some (if a2 = 0 then Int32.ofNat be' else Int32.ofNat (ak_w V (H be') 10), sr) := fun be2 hb2 => ih (j + 1) m m' be2 _ (by omega) (by omega) (by omega) hb2 (fun h b g1 g2 g3 g4 => by rw [nb_ii, if_neg (fun z => by omega), nb_ii, if_neg (fun z => by omega)]; exact Ex h b g1 g2 g3 g4) (by omega) (by rw [nb_ii, if_neg (fun z => by omega), nb_ii, if_pos ⟨rfl, rfl⟩]) (by rw [nb_ii, if_pos ⟨rfl, rfl⟩])
    by_cases q1 : ak_w V (H j) 10 < ak_w V (H be) 10
    · have q2 : Int32.ofNat (ak_w V (H j) 10) < Int32.ofNat (ak_w V (H be) 10) := (nn_lt (by omega) (by omega)).mpr q1
      have mn : hq_min (Int32.ofNat (ak_w V (H j) 10)) (Int32.ofNat (ak_w V (H be) 10)) = Int32.ofNat (ak_w V (H j) 10) := by rw [nb_min (by omega) (by omega), Nat.min_eq_left (by omega)]
      obtain ⟨s', be', r1, r2, r3, r4⟩ := go j (by omega)
      refine ⟨s', be', ?_, r2, r3, ?_⟩
      · rw [← r1]
        simp only [f_X2_chooseQuestion_L17_s, f_X2_chooseQuestion_L17_B, if_neg c, w3, Option.bind_some, e9, if_pos q2, nn_pi, n98, mn, nn_succ]
      · rw [← r4]
        simp only [f_X12_ask_L116_s, f_X12_ask_L116_B, if_neg c, w2, w1, Option.bind_some, if_pos q2, nn_succ]
    · have q2 : ¬ Int32.ofNat (ak_w V (H j) 10) < Int32.ofNat (ak_w V (H be) 10) := by rw [nn_lt (by omega) (by omega)]; exact q1
      have mn : hq_min (Int32.ofNat (ak_w V (H j) 10)) (Int32.ofNat (ak_w V (H be) 10)) = Int32.ofNat (ak_w V (H be) 10) := by rw [nb_min (by omega) (by omega), Nat.min_eq_right (by omega)]
      obtain ⟨s', be', r1, r2, r3, r4⟩ := go be hbe
      refine ⟨s', be', ?_, r2, r3, ?_⟩
      · rw [← r1]
        simp only [f_X2_chooseQuestion_L17_s, f_X2_chooseQuestion_L17_B, if_neg c, w3, Option.bind_some, e9, if_neg q2, nn_pi, n98, mn, e8, nn_succ]
      · rw [← r4]
        simp only [f_X12_ask_L116_s, f_X12_ask_L116_B, if_neg c, w2, w1, Option.bind_some, if_neg q2, nn_succ]
theorem hs_op_40 (hc : hc_loc HC) (hN : 300 < N) (a1 a2 : Int32) : hq_Sim (hR HC) (f_X11_ask N a1 a2) (f_X12_ask N a1 a2) := fun sx sm R => by
  have R2 := hR_th hc (x := 0) R
  obtain ⟨nc, nl, ng, nt, t, bar, fr, to, on, TT⟩ := R.2.2.2.2.2
  obtain ⟨I, T⟩ := hT_th 0 R.2.2.1 TT
  have T0 := T
  obtain ⟨⟨t1, t2, t3⟩, ⟨⟨b1, b2, b3, b4⟩, ⟨c1, c2, -, -, g1, g2, d1, d2⟩, -⟩, -⟩ := T
  have d10 : ¬ (1 : Int32) = 0 := by decide
  have iT : hq_isT t := t2
  rcases hs_isThief (N := N) (a := a1) (by omega) t1 t2 d1 d2 with ⟨i, hi, rfl, e1, e2⟩ | ⟨e1, e2⟩
  · by_cases k0 : a2 < 0
    · exact ⟨-1, sx, hq_si sm 174 0 0, by simp only [f_X11_ask, e1, Option.bind_some, if_neg d10, if_pos k0], by simp only [f_X12_ask, nn_pi, e2, Option.bind_some, if_neg d10, if_pos k0], R2⟩
    by_cases k1 : (1 : Int32) < a2
    · exact ⟨-1, sx, hq_si sm 174 0 0, by simp only [f_X11_ask, e1, Option.bind_some, if_neg d10, if_neg k0, if_pos k1], by simp only [f_X12_ask, nn_pi, e2, Option.bind_some, if_neg d10, if_neg k0, if_pos k1], R2⟩
    obtain ⟨k, K, li, a, a', sx1, sm1, p1, p2, p3, p4, p5, p6, p7, p8, p9, p10⟩ := bo_prep (N := N) (by omega) hi I T0
    obtain ⟨V, sx2, sm2, v0, q1, q2, q3, q4, ⟨smz, q5, q6⟩, q7, q8, q9⟩ := ak_ten (N := N) (a := a) (by omega) t2 hi (by omega) 10 0 N N 0 sx1 sm1 (by omega) (by omega) (by omega) (by omega) p8 p9
    have q1 : f_X2_boldsOf_L12 N N (Int32.ofNat i) (t + 14) 60 (Int32.ofNat (sd li K K).2) 0 0 sx1 = some (Int32.ofNat V, sx2) := q1
    have q2 : f_X12_boldsOf_L129 N N (Int32.ofNat i) (Int32.ofNat a) 0 0 sm1 = some (Int32.ofNat V, sm2) := q2
    have ow : ∀ c x, ¬ (c = 174 ∧ x = 53) → hq_gi (hq_si sm2 174 53 (Int32.ofNat i)) c x = hq_gi sm2 c x := fun c x h => by rw [nb_ii, if_neg h]
    obtain ⟨sr, r1, r2, r3, r4⟩ := ak_38 (N := N) (a2 := a2) (V := V) (sm := sm1) (by omega) t2 hi q5 q6 (fun b hb hv => q8 b (by omega) hb hv) 10 0 N (hq_si sm2 174 53 (Int32.ofNat i)) (by omega) (by omega) (ak_g_tr q4 ⟨fun c x h1 h2 => ow c x (by omega), fun x hx => ow _ _ (by omega), fun c x h1 h2 => ow c x (by omega)⟩) (by rw [nb_ii, if_pos ⟨rfl, rfl⟩])
    have r1 : f_X12_ask_L38 N N (Int32.ofNat i) a2 (Int32.ofNat V) 0 (hq_si sm2 174 53 (Int32.ofNat i)) = f_X12_ask_L116 N N (Int32.ofNat i) a2 (Int32.ofNat V) 1 2 (hq_si sr 174 53 (-1)) := r1
    have Em : ∀ h b, b < 10 → hq_gi (hq_si sr 174 53 (-1)) 230 (61 * b + h) = (fun h b => hq_gi sr 230 (61 * b + h)) h b := fun h b _ => by rw [nb_ii, if_neg (fun z => by omega)]
    have w1 := wl_X (N := N) (V := V) (h := 1) (H := fun b => hq_gi sr 230 (61 * b + 1)) (s := hq_si sx2 163 8 1) (by omega) v0 (by omega) (fun b hb hv => by rw [nb_ii, if_neg (fun z => by omega)]; exact (r4 b (by omega) hb hv 1 (by omega) (by omega)).symm)
    have w1 : f_X2_worstLeft N 1 (Int32.ofNat V) (hq_si sx2 163 8 1) = some (Int32.ofNat (ak_w V (fun b => hq_gi sr 230 (61 * b + 1)) 10), hq_si sx2 163 8 1) := w1
    obtain ⟨sx', be, y1, y2, y3, y4⟩ := ch_17 (N := N) (V := V) (i := Int32.ofNat i) (a2 := a2) (H := fun h b => hq_gi sr 230 (61 * b + h)) (by omega) v0 Em 59 2 N N 1 (hq_si (hq_si sx2 163 8 1) 163 9 (Int32.ofNat (ak_w V (fun b => hq_gi sr 230 (61 * b + 1)) 10))) (by omega) (by omega) (by omega) (by omega) (fun h b h1 h2 h3 h4 => by rw [nb_ii, if_neg (fun z => by omega), nb_ii, if_neg (fun z => by omega)]; exact (r4 b (by omega) h3 h4 h h1 h2).symm) (by omega) (by rw [nb_ii, if_neg (fun z => by omega), nb_ii, if_pos ⟨rfl, rfl⟩]; rfl) (by rw [nb_ii, if_pos ⟨rfl, rfl⟩])
    have y1 : f_X2_chooseQuestion_L17 N N (Int32.ofNat V) 2 (hq_si (hq_si sx2 163 8 1) 163 9 (Int32.ofNat (ak_w V (fun b => hq_gi sr 230 (61 * b + 1)) 10))) = some sx' := y1
    have y4 : f_X12_ask_L116 N N (Int32.ofNat i) a2 (Int32.ofNat V) 1 2 (hq_si sr 174 53 (-1)) = _ := y4
    generalize hw : (if a2 = 0 then Int32.ofNat be else Int32.ofNat (ak_w V ((fun h b => hq_gi sr 230 (61 * b + h)) be) 10)) = v at y4
    have ex : f_X11_ask N (Int32.ofNat i) a2 sx = some (v, sx') := by
      rw [← hw]
      by_cases z : a2 = 0
      · simp only [f_X11_ask, e1, Option.bind_some, if_neg d10, if_neg k0, if_neg k1, p1, p2, if_pos iT, f_X2_boldsOf, p6, q1, f_X2_chooseQuestion, nn_pi, w1, y1, if_pos z, y2]
      · simp only [f_X11_ask, e1, Option.bind_some, if_neg d10, if_neg k0, if_neg k1, p1, p2, if_pos iT, f_X2_boldsOf, p6, q1, f_X2_chooseQuestion, nn_pi, w1, y1, if_neg z, y3]
    have em : f_X12_ask N (Int32.ofNat i) a2 sm = some (v, hq_si sr 174 53 (-1)) := by
      simp only [f_X12_ask, nn_pi, e2, Option.bind_some, if_neg d10, if_neg k0, if_neg k1, p7, q2, r1, y4]
    have kx := f_X11_ask_fw ex
    have km := f_X12_ask_fw em
    have oo : hm_o 1 (hq_si sm 174 0 0) (hq_si sr 174 53 (-1)) := hm_o_tr p10 (hm_o_tr q3 (hm_o_tr (fun c x h1 h2 h3 => ow c x (by omega)) (hm_o_tr r3 (fun c x h1 h2 h3 => by rw [nb_ii, if_neg (fun z => by omega)]))))
    refine ⟨v, sx', hq_si sr 174 53 (-1), ex, em, hR_gi (sm := ((hq_si sr 174 53 (-1)).1, sm.2)) (fun _ _ => rfl) (hR_k (sx := sx) (sm := sm) hc (kx.kp (by decide)) (fun k i hk => ?_) (hm_o_th oo) R)⟩
    rcases hd_split (D := hd_M) (E := hd_Mb) (F := [(174, some 53)]) (by decide) k i hk with h | h
    · exact ⟨((km.kp (D := hd_Mb) (by decide)) k i h).1, rfl, rfl⟩
    · obtain ⟨rfl, rfl⟩ := hd_one h
      refine ⟨?_, rfl, rfl⟩
      rw [R.2.2.1.2.2.1]
      show hq_gi (hq_si sr 174 53 (-1)) 174 53 = -1
      exact nn_g1
  · exact ⟨-1, sx, hq_si sm 174 0 0, by simp only [f_X11_ask, e1, Option.bind_some, if_true], by simp only [f_X12_ask, nn_pi, e2, Option.bind_some, if_true], R2⟩
end
