/-! TEN BOLDNESSES -/
section
variable {N nc nl ng nt t k K : Nat} {fr to on : Nat → Nat} {li : Nat → Option Nat}
def bo_B (nc nl ng nt t k K i : Nat) (fr to on : Nat → Nat) (li : Nat → Option Nat) (sx sm : hq_S) : Prop := hr_told nc nl ng nt t sx sm ∧ (hq_gr sx 113 0 = t ∧ hq_gr sx 113 1 = 108 ∧ hq_gr sx 113 2 = 94) ∧ hl_S 108 nc (ly_nx fr to on 0 false nl) sx ∧ (∀ a b, a < nc → b < nc → hq_gi sx 110 (10 * a + b) = Int32.ofNat (bf_far (ly_nx fr to on 0 false nl) nc a b)) ∧ hl_M nl nc fr to on sm ∧ ¬ hq_gi sm 174 49 = 4 ∧ hh_M 0 sx sm ∧ hq_gi sm 174 53 = Int32.ofNat i ∧ bo_I nc nt k K li sx sm
theorem bo_B_of {i : Nat} {o sx sm smg : hq_S} (t2 : t = 2 ∨ t = 25) (P : hh_P nc nl ng nt t 108 94 1 fr to on 0 false 0 o sx smg) (I : bo_I nc nt k K li sx smg) (g : bo_g sm smg) (n4 : ¬ hq_gi sm 174 49 = 4) (e53 : hq_gi sm 174 53 = Int32.ofNat i) : bo_B nc nl ng nt t k K i fr to on li sx sm := by
  obtain ⟨T, -, rf, S, F, ⟨M, -⟩, -, Mo, -⟩ := P
  have em : ∀ c i, 176 ≤ c → c ≤ 193 → hq_gi sm c i = hq_gi smg c i := fun c i h1 h2 => (g.1 c i h1 h2).symm
  refine ⟨hr_told_f t2 (fun _ _ _ => rfl) (fun _ _ _ => rfl) em T, rf, S, F, ?_, n4, hh_M_f (fun _ => rfl) (g.2.1 49 (by omega)).symm (g.2.1 50 (by omega)).symm Mo, e53, bo_I_k (fun _ _ _ _ => rfl) (g.2.1 74 (by omega)).symm (g.2.1 75 (by omega)).symm (fun c i h1 h2 => (g.2.2 c i h1 h2).symm) I⟩
  unfold hl_M at M ⊢
  simp (disch := decide) only [em]
  exact M
theorem bo_ten {i a a' : Nat} (hN : 100 < N) (t2 : t = 2 ∨ t = 25) (hi : i < nt) (haa : a ≤ a') (ha : a' ≤ 60) : ∀ (q j m m' : Nat) (acc : Int32) (sx sm : hq_S), j + q = 10 → q < m → q < m' → (∀ x, x < k → (sd li K K).2.testBit x = true → ∀ h, a < h → h ≤ 60 → ¬ hq_gi sm 224 x = Int32.ofNat h) → bo_B nc nl ng nt t k K i fr to on li sx sm → ∃ v sx' sm', f_X2_boldsOf_L12 N m (Int32.ofNat i) (t + 14) (Int32.ofNat a') (Int32.ofNat (sd li K K).2) acc (Int32.ofNat j) sx = some (v, sx') ∧ f_X12_boldsOf_L129 N m' (Int32.ofNat i) (Int32.ofNat a) acc (Int32.ofNat j) sm = some (v, sm') ∧ hq_gi sm' 174 53 = -1 ∧ hm_o 1 sm sm' := by
  intro q
  induction q with
  | zero =>
    intro j m m' acc sx sm hj hm hm' NS B
    obtain ⟨m, rfl⟩ : ∃ k, m = k + 1 := ⟨m - 1, by omega⟩
    obtain ⟨m', rfl⟩ : ∃ k, m' = k + 1 := ⟨m' - 1, by omega⟩
    have c : ¬ Int32.ofNat j < (10 : Int32) := by rw [nb_lit 10, nn_lt (by omega) (by omega)]; omega
    exact ⟨acc, sx, hq_si sm 174 53 (-1), by simp only [f_X2_boldsOf_L12_s, f_X2_boldsOf_L12_B, if_neg c], by simp only [f_X12_boldsOf_L129_s, f_X12_boldsOf_L129_B, if_neg c, nn_pi, Option.bind_some], by rw [nb_ii, if_pos ⟨rfl, rfl⟩], fun c x h1 h2 h3 => by rw [nb_ii, if_neg (fun z => by omega)]⟩
  | succ q ih =>
    intro j m m' acc sx sm hj hm hm' NS B
    obtain ⟨m, rfl⟩ : ∃ k, m = k + 1 := ⟨m - 1, by omega⟩
    obtain ⟨m', rfl⟩ : ∃ k, m' = k + 1 := ⟨m' - 1, by omega⟩
    have c : Int32.ofNat j < (10 : Int32) := by rw [nb_lit 10, nn_lt (by omega) (by omega)]; omega
    obtain ⟨T, rf, S, F, M, n4, Mo, e53, I⟩ := B
    have ow : ∀ c x, ¬ (c = 174 ∧ x = 54) → hq_gi (hq_si sm 174 54 (Int32.ofNat j)) c x = hq_gi sm c x := fun c x h => by rw [nb_ii, if_neg h]
    have M0 : hl_M nl nc fr to on (hq_si sm 174 54 (Int32.ofNat j)) := by
      unfold hl_M at M ⊢
      simp (disch := omega) only [ow]
      exact M
    obtain ⟨sx1, sm1, e1, e2, P⟩ := hb_again (N := N) (i := i) (b := j) (sx := sx) (sm := hq_si sm 174 54 (Int32.ofNat j)) hN (hr_told_f t2 (fun _ _ _ => rfl) (fun _ _ _ => rfl) (fun c x h1 h2 => ow c x (by omega)) T) t2 rf S F M0 (by rw [ow _ _ (by omega)]; exact n4) (hh_M_f (fun _ => rfl) (ow _ _ (by omega)) (ow _ _ (by omega)) Mo) hi (by omega) (by rw [ow _ _ (by omega)]; exact e53) (by rw [nb_ii, if_pos ⟨rfl, rfl⟩])
    obtain ⟨s', z1, -, -, -, -, z2, -⟩ := st_all (N := N) (l := 1) (nc := nc) (s := hq_si sm 174 54 (Int32.ofNat j)) (by omega) (by omega) T.1.1 (by rw [ow _ _ (by omega)]; exact T.2.1.2.1)
    have z1 : f_X12_starts N 1 (hq_si sm 174 54 (Int32.ofNat j)) = some s' := z1
    rw [e2] at z1
    cases Option.some.inj z1
    have gm : ∀ c x, ¬ (c = 174 ∧ x = 54) → c < 196 ∨ 205 < c → hq_gi sm1 c x = hq_gi sm c x := fun c x h1 h2 => by rw [z2 c x h2, ow c x h1]
    obtain ⟨kx, y1, y2⟩ : ∃ s1, f_X5_copyFrom N 94 (t + 14) sx = some s1 ∧ hk_X 94 (t + 14) sx s1 := hk_copyFrom (by omega) sx
    have ex : ∀ c x, 163 ≤ c → c ≤ 168 → hq_gi sx1 c x = hq_gi sx c x := fun c x h1 h2 => by
      have iN : hq_isN 94 := by decide
      have st : hq_st kx 100 4 (Int32.ofNat i) (Int32.ofNat j) = some (hq_si kx 100 i (Int32.ofNat j)) := nn_st (by have := T.1.2.2.2; omega) (by omega)
      have r2 : hq_gr kx 113 2 = 94 := by rw [y2.2.2.1]; exact rf.2.2
      simp only [f_X3_restart, rf.2.2, if_pos iN, y1, Option.bind_some, r2, Nat.reduceAdd, st] at e1
      rw [← Option.some.inj e1, nb_ii, if_neg (fun z => by omega)]
      exact y2.1 c x (by omega)
    have I1 := bo_I_k (sm' := sm1) ex (gm _ _ (by omega) (by omega)) (gm _ _ (by omega) (by omega)) (fun c x h1 h2 => gm c x (by omega) (by omega)) I
    obtain ⟨b, sx2, sm2, smg, f1, f2, f3, -, f5, f6, f7, f8, f9⟩ := bo_run (N := N) (q12 := f_X2_boldsOf_L12 N m) (i := i) (k3 := t + 14) (bo := j) (a6 := acc) hN hi (by omega) haa ha a' 1 N N sx1 sm1 (by omega) (by omega) (by omega) (fun x hx ht h h1 h2 => by rw [gm _ _ (by omega) (by omega)]; exact NS x hx ht h h1 h2) P I1
    have B2 : bo_B nc nl ng nt t k K i fr to on li sx2 sm2 := bo_B_of t2 f5 f6 f7 (by rw [f8.2.1 _ (by omega), gm _ _ (by omega) (by omega)]; exact n4) (by rw [f8.2.1 _ (by omega), gm _ _ (by omega) (by omega)]; exact e53)
    obtain ⟨v, sx', sm', g1, g2, g3, g4⟩ := ih (j + 1) m m' (acc ||| (if b = 0 then 0 else Int32.ofNat (2 ^ j))) sx2 sm2 (by omega) (by omega) (by omega) (fun x hx ht h h1 h2 => by rw [f8.2.2 _ _ (by omega) (by omega), gm _ _ (by omega) (by omega)]; exact NS x hx ht h h1 h2) B2
    have f3 : f_X12_fitsBold_L7 N N (Int32.ofNat a) 1 sm1 = some (b, sm2) := f3 (by omega)
    have fb : f_X12_fitsBold N (Int32.ofNat a) (hq_si sm 174 54 (Int32.ofNat j)) = some (b, sm2) := by simp only [f_X12_fitsBold, e2, Option.bind_some, f3]
    refine ⟨v, sx', sm', ?_, ?_, g3, hm_o_tr (fun c x h1 h2 h3 => (f9 c x h1 h2 h3).trans (ow c x (by omega))) g4⟩
    · rw [← g1, ← f2]
      simp only [f_X2_boldsOf_L12_s, f_X2_boldsOf_L12_B, if_pos c, e1, Option.bind_some]
      rfl
    · rw [← g2]
      by_cases q0 : b = 0
      · simp only [f_X12_boldsOf_L129_s, f_X12_boldsOf_L129_B, if_pos c, nn_pi, Option.bind_some, fb, if_pos q0, nn_succ]
      · simp only [f_X12_boldsOf_L129_s, f_X12_boldsOf_L129_B, if_pos c, nn_pi, Option.bind_some, fb, if_neg q0, nb_one (show j < 32 by omega), nn_succ]
end
