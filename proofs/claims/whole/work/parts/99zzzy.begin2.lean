/-! THE READER: how the reference begins -/
section
variable {N L v : Nat} {s : hq_S} {a1 a2 : Int32}
theorem L47_st {m j : Nat} (hj : j < 7) : f_X12_text_L47 N (m + 1) a1 (Int32.ofNat j) s = f_X12_text_L47 N m a1 (Int32.ofNat (j + 1)) (hq_si s 176 (7 + j) (if j = 4 then 100 else 0)) := by
  rw [f_X12_text_L47_s]
  unfold f_X12_text_L47_B
  rw [ie (show (Int32.ofNat j < 7) = (j < 7) from nb_ltp (b := 7) (by omega) (by omega)), if_pos hj, ie (show (Int32.ofNat j = 4) = (j = 4) from nb_eq (b := 4) (by omega) (by omega))]
  by_cases c : j = 4
  · rw [if_pos c, if_pos c]
    simp only [ob]
    rw [reads_v (j := j) rfl hj, nn_succ]
    rfl
  · rw [if_neg c, if_neg c]
    simp only [ob]
    rw [reads_v (j := j) rfl hj, nn_succ]
    rfl
theorem L47_en {m : Nat} : f_X12_text_L47 N (m + 1) a1 (Int32.ofNat 7) s = f_X12_text_L77 N N a1 3 s := by
  rw [f_X12_text_L47_s]
  unfold f_X12_text_L47_B
  rw [if_neg (by decide)]
theorem L77_st {m j : Nat} (hj : j < 6) : f_X12_text_L77 N (m + 1) a1 (Int32.ofNat j) s = f_X12_text_L77 N m a1 (Int32.ofNat (j + 1)) (hq_si (hq_si s 190 j 0) 191 j 0) := by
  rw [f_X12_text_L77_s]
  unfold f_X12_text_L77_B
  rw [ie (show (Int32.ofNat j < 6) = (j < 6) from nb_ltp (b := 6) (by omega) (by omega)), if_pos hj, nn_st (by omega) (by omega)]
  simp only [ob]
  rw [nn_st (by omega) (by omega), nn_succ]
  rfl
theorem L77_en {m : Nat} : f_X12_text_L77 N (m + 1) a1 (Int32.ofNat 6) s = (f_X12_token N (hq_si (hq_si (hq_si (hq_si s 174 21 0) 174 22 0) 174 32 0) 174 33 0)).bind fun s15 => f_X12_text_L127 N N a1 6 s15 := by
  rw [f_X12_text_L77_s]
  unfold f_X12_text_L77_B
  rw [if_neg (by decide), nn_pi]
  simp only [ob, nn_pi]
  rfl
/-- the reference's second halves, empty -/
def clM (s : hq_S) : Prop := (hq_gi s 176 7 = 0 ∧ hq_gi s 176 8 = 0 ∧ hq_gi s 176 9 = 0 ∧ hq_gi s 176 10 = 0 ∧ hq_gi s 176 11 = 100 ∧ hq_gi s 176 12 = 0 ∧ hq_gi s 176 13 = 0) ∧ (hq_gi s 190 3 = 0 ∧ hq_gi s 190 4 = 0 ∧ hq_gi s 190 5 = 0 ∧ hq_gi s 191 3 = 0 ∧ hq_gi s 191 4 = 0 ∧ hq_gi s 191 5 = 0) ∧ (hq_gi s 174 21 = 0 ∧ hq_gi s 174 22 = 0 ∧ hq_gi s 174 24 = 0 ∧ hq_gi s 174 28 = 0 ∧ hq_gi s 174 29 = -1 ∧ hq_gi s 174 32 = 0 ∧ hq_gi s 174 33 = 0 ∧ hq_gi s 174 2 = 0)
theorem tx_M (hN : 1000 < N) {x p : Int32} (h1 : ¬ x < 0) (hp : hq_gi s 174 2 = p) (h2 : ¬ p < x) : ∃ s14, f_X12_text N x s = (f_X12_token N s14).bind (fun s15 => f_X12_text_L127 N N x 6 s15) ∧ clM s14 ∧ hq_gi s14 174 23 = x ∧ kM s s14 := by
  obtain ⟨M, rfl⟩ : ∃ m, N = m + 8 := ⟨N - 8, by omega⟩
  have e : f_X12_text (M + 8) x s = (f_X12_token (M + 8) (hq_si (hq_si (hq_si (hq_si (hq_si (hq_si (hq_si (hq_si (hq_si (hq_si (hq_si (hq_si (hq_si (hq_si (hq_si (hq_si (hq_si (hq_si (hq_si (hq_si (hq_si (hq_si (hq_si s 174 0 0) 174 23 x) 174 2 0) 174 24 0) 174 28 0) 174 29 (-1)) 176 7 0) 176 8 0) 176 9 0) 176 10 0) 176 11 100) 176 12 0) 176 13 0) 190 3 0) 191 3 0) 190 4 0) 191 4 0) 190 5 0) 191 5 0) 174 21 0) 174 22 0) 174 32 0) 174 33 0)).bind fun s15 => f_X12_text_L127 (M + 8) (M + 8) x 6 s15 := by
    unfold f_X12_text
    rw [nn_pi]
    simp only [ob]
    rw [if_neg h1, nn_n (by omega), hp, if_neg h2, nn_pi]
    simp only [ob]
    rw [nn_pi]
    simp only [ob]
    rw [nn_pi]
    simp only [ob]
    rw [nn_pi]
    simp only [ob]
    rw [nn_pi]
    simp only [ob]
    rw [show (0 : Int32) = Int32.ofNat 0 from rfl, show M + 8 = (M + 7) + 1 from rfl, L47_st (j := 0) (by omega), show M + 7 = (M + 6) + 1 from rfl, L47_st (j := 1) (by omega), show M + 6 = (M + 5) + 1 from rfl, L47_st (j := 2) (by omega), show M + 5 = (M + 4) + 1 from rfl, L47_st (j := 3) (by omega), show M + 4 = (M + 3) + 1 from rfl, L47_st (j := 4) (by omega), show M + 3 = (M + 2) + 1 from rfl, L47_st (j := 5) (by omega), show M + 2 = (M + 1) + 1 from rfl, L47_st (j := 6) (by omega), L47_en, show (3 : Int32) = Int32.ofNat 3 from rfl]
    rw [L77_st (j := 3) (by omega), L77_st (j := 4) (by omega), L77_st (j := 5) (by omega), L77_en]
    rfl
  refine ⟨_, e, ⟨⟨?_, ?_, ?_, ?_, ?_, ?_, ?_⟩, ⟨?_, ?_, ?_, ?_, ?_, ?_⟩, ⟨?_, ?_, ?_, ?_, ?_, ?_, ?_, ?_⟩⟩, ?_, fun k i h1 h2 => ?_, fun k i h1 h2 h3 => ?_, fun i hi => ?_⟩
  all_goals first
    | (simp (disch := omega) only [nn_g1, nn_n]; done)
    | skip
  · by_cases c : k = 176
    · rw [c] at h3 ⊢
      have : i < 7 := h3
      simp (disch := omega) only [nn_n]
    · by_cases c : k = 190
      · rw [c] at h3 ⊢
        have : i < 3 := h3
        simp (disch := omega) only [nn_n]
      · by_cases c : k = 191
        · rw [c] at h3 ⊢
          have : i < 3 := h3
          simp (disch := omega) only [nn_n]
        · simp (disch := omega) only [nn_n]
end
section
variable {N L v : Nat} {sx sm : hq_S} {t : Nat → Nat}
/-- both, ahead of the first line -/
theorem tx_RD (hN : 1000 < N) (hv : v = 2 ∨ v = 25) (X : tkX t L sx) (M : tkM t L sm) (cX : clF v sx) (cM : clM sm) (g1 : hq_gr sx 48 1 = v) (x7 : hq_gi sx 48 7 = 0) (x9 : hq_gi sx 48 9 = 0) (x3 : hq_gi sx 49 3 = 0) : ∃ pl sx' sm', f_X9_advance N sx = some sx' ∧ f_X12_token N sm = some sm' ∧ RD t L v 0 pl sx' sm' ∧ kz 49 FX sx sx' ∧ kz 174 FM sm sm' := by
  obtain ⟨⟨h1, h2, h3, h4, h5, h6, h7, h8⟩, ⟨h9, h10, h11, h12, h13⟩, h14, h15, h16⟩ := cX
  obtain ⟨⟨m1, m2, m3, m4, m5, m6, m7⟩, ⟨n1, n2, n3, n4, n5, n6⟩, ⟨l1, l2, l3, l4, l5, l6, l7, l8⟩⟩ := cM
  obtain ⟨p', pl, q, a, b, sx', sm', r1, r2, R, r4, k, k'⟩ := tk_adv hN X M (p := 0) (by omega) x3 l3
  refine ⟨pl, sx', sm', r1, r2, ⟨0, 0, 0, 0, 0, 0, p', q, a, b, R, ⟨(kz_gr k _ _).trans g1, hv⟩, ?_, ⟨⟨by omega, ?_, ?_, ?_⟩, fun r hr => ⟨0, by omega, ?_, ?_⟩, ⟨by omega, ?_, ?_, ?_, ?_, ?_⟩, ⟨0, by omega, ?_⟩, fun i i1 i2 => ?_⟩, ⟨?_, ?_⟩, ?_, ?_⟩, k, k'⟩
  · have ex : ∀ c i, v ≤ c → c ≤ v + 22 → hq_gi sx' c i = hq_gi sx c i := fun c i c1 c2 => kz_ne k (by omega)
    have em : ∀ c i, 176 ≤ c → hq_gi sm' c i = hq_gi sm c i := fun c i c1 => kz_ne k' (by omega)
    have rl : ∀ r, r < 3 → hr_rule v r sx' (sh sm') := fun r hr => by
      unfold hr_rule
      simp only [sh_190, sh_191, sh_192, sh_193]
      refine ⟨0, 0, by omega, by omega, ?_, ?_, ?_, ?_, fun _ => rfl, fun j j1 j2 => by omega, fun w => by omega⟩
      · rw [ex _ _ (by omega) (by omega)]; exact (h14 r hr).2.1
      · rw [em _ _ (by omega)]
        rcases (show r = 0 ∨ r = 1 ∨ r = 2 by omega) with rfl | rfl | rfl
        · exact n1
        · exact n2
        · exact n3
      · rw [ex _ _ (by omega) (by omega)]; exact (h14 r hr).2.2.1
      · rw [em _ _ (by omega)]
        rcases (show r = 0 ∨ r = 1 ∨ r = 2 by omega) with rfl | rfl | rfl
        · exact n4
        · exact n5
        · exact n6
    unfold hr_told
    simp only [sh_176, sh_177, sh_178, sh_179, sh_180, sh_181, sh_182, sh_183, sh_184, sh_185, sh_186, sh_187, sh_188, sh_189]
    simp (disch := omega) only [ex, em]
    refine ⟨⟨by omega, by omega, by omega, by omega⟩, ⟨h1, m1, h2, m2, h4, m3, h5, m4⟩, fun i hi => by omega, fun i i1 i2 => h15 i i2, fun i hi => by omega, fun i hi => by omega, fun i hi => by omega, ⟨100, by omega, h6, m5⟩, ⟨0, by omega, (kz_gj k _ _).trans h12, m6⟩, ⟨h11, h13, fun i hi => ⟨(h14 i hi).2.2.2.1, (h14 i hi).2.2.2.2⟩, fun i hi => h16 i hi⟩, ⟨0, by omega, h9, m7⟩, rl 0 (by omega), rl 1 (by omega), rl 2 (by omega)⟩
  · rw [kz_no k' (by decide)]; exact l1
  · rw [kz_ne k (by omega), h7, if_neg (by rw [Nat.zero_testBit]; decide)]
  · rw [kz_ne k (by omega), h8, if_neg (by rw [Nat.zero_testBit]; decide)]
  · rw [kz_ne k (by omega)]; exact (h14 r hr).2.2.1
  · rw [Nat.zero_testBit]; exact ⟨fun w => (by cases w), fun w => (by omega)⟩
  · rw [kz_ne k (by omega)]; exact h9
  · rw [kz_ne k (by omega)]; exact h10
  · rw [kz_ne k' (by omega)]; exact m7
  · rw [kz_no k' (by decide)]; exact l7
  · rw [kz_no k' (by decide)]; exact l6
  · rw [kz_ne k (by omega)]; exact h3
  · rw [kz_ne k (by omega)]; exact (h14 i i2).1
  · rw [kz_ne k (by omega)]; exact x7
  · rw [kz_no k' (by decide)]; exact l4
  · rw [kz_ne k (by omega)]; exact x9
  · rw [kz_no k' (by decide)]; exact l2
end
