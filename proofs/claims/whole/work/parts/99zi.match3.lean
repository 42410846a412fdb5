/-! MATCH: the tree of the reference is the row of rows -/
section
variable {N nc ng nt : Nat} {fe : Nat → Bool} {gc tc : Nat → Nat} {fa : Nat → Nat → Nat}
theorem mt_dfs (hN : 10 < N) (hnc : nc ≤ 10) (hng : ng ≤ 3) (hnt : nt ≤ 4) (hfa : ∀ a b, fa a b ≤ 99) {z : Nat} : ∀ (r k P us c d : Nat) (s : hq_S), r ≤ ng → r < k → us < 16 → c + r ≤ 3 → d + 99 * r ≤ 297 → (∀ x, x < 5 ^ r → mt_ev nt ng fe (fun g i => fa (gc g) (tc i)) (P * 5 ^ r + x) ng 0 0 0 = mt_ev nt ng fe (fun g i => fa (gc g) (tc i)) (P * 5 ^ r + x) r us c d) → mt_M nc ng nt fe gc tc fa s → mt_r ng (mt_b (mt_f ng nt fe gc tc fa) z (P * 5 ^ r)) s → (∀ g, g < ng - r → ∀ x, x < 5 ^ r → hq_gi s 222 g = mt_dg ng (P * 5 ^ r + x) g) → ∃ s', f_X12_matches_G N k 0 (Int32.ofNat (ng - r)) (Int32.ofNat us) (Int32.ofNat c) (Int32.ofNat d) s = some s' ∧ mt_k s s' ∧ mt_r ng (mt_b (mt_f ng nt fe gc tc fa) z ((P + 1) * 5 ^ r)) s' ∧ ∀ g, g < ng - r → hq_gi s' 222 g = hq_gi s 222 g := by
  intro r
  induction r with
  | zero =>
    intro k P us c d s hr hk hus hc hd pre M R D
    obtain ⟨k, rfl⟩ : ∃ n, k = n + 1 := ⟨k - 1, by omega⟩
    have hf : mt_f ng nt fe gc tc fa P = Int32.ofNat (1000 * c + 999 - d) := by
      have h := pre 0 (by decide)
      rw [Nat.pow_zero, Nat.mul_one, Nat.add_zero] at h
      unfold mt_f
      rw [h]
      rfl
    rw [Nat.pow_zero, Nat.mul_one] at R
    obtain ⟨s', e1, e2, e3, e4⟩ := mt_leaf (N := N) (R0 := f_X12_matches_G N k 0) (a2 := Int32.ofNat us) hN hng (by omega) (by omega) M (fun g hg => by
      have h := D g (by omega) 0 (by decide)
      rw [Nat.pow_zero, Nat.mul_one, Nat.add_zero] at h
      exact h) hf R
    exact ⟨s', e1, e2, by rw [Nat.pow_zero, Nat.mul_one]; exact e3, fun g _ => e4 g⟩
  | succ r ih =>
    intro k P us c d s hr hk hus hc hd pre M R D
    obtain ⟨k, rfl⟩ : ∃ n, k = n + 1 := ⟨k - 1, by omega⟩
    have w0 : 0 < 5 ^ r := Nat.pow_pos (by omega)
    have eP : ∀ j x, (P * 5 + j) * 5 ^ r + x = P * 5 ^ (r + 1) + (j * 5 ^ r + x) := fun j x => by
      rw [Nat.pow_succ, Nat.add_mul, Nat.mul_assoc, Nat.mul_comm 5 (5 ^ r), Nat.add_assoc]
    have lx : ∀ j x, j < 5 → x < 5 ^ r → j * 5 ^ r + x < 5 ^ (r + 1) := fun j x hj hx => by
      have : j * 5 ^ r ≤ 4 * 5 ^ r := Nat.mul_le_mul_right _ (by omega)
      rw [Nat.pow_succ]
      omega
    have dj : ∀ j x, j < 5 → x < 5 ^ r → ((P * 5 + j) * 5 ^ r + x) / 5 ^ r % 5 = j := fun j x hj hx => by
      rw [Nat.add_comm, Nat.add_mul_div_right _ _ w0, Nat.div_eq_of_lt hx]
      omega
    have eg : ng - (r + 1) = ng - 1 - r := by omega
    -- what a row of digit j is worth
    have ev : ∀ j x, j < 5 → x < 5 ^ r → mt_ev nt ng fe (fun g i => fa (gc g) (tc i)) ((P * 5 + j) * 5 ^ r + x) ng 0 0 0 = if j = 4 then mt_ev nt ng fe (fun g i => fa (gc g) (tc i)) ((P * 5 + j) * 5 ^ r + x) r us c d else if j < nt ∧ fe j = true ∧ us.testBit j = false then mt_ev nt ng fe (fun g i => fa (gc g) (tc i)) ((P * 5 + j) * 5 ^ r + x) r (us ||| 2 ^ j) (c + 1) (d + fa (gc (ng - 1 - r)) (tc j)) else none := fun j x hj hx => by
      have h := pre (j * 5 ^ r + x) (lx j x hj hx)
      rw [← eP j x] at h
      rw [h, mt_ev, dj j x hj hx]
    -- a digit that names nobody
    have bad : ∀ j, j < 4 → ¬ (j < nt ∧ fe j = true ∧ us.testBit j = false) → ∀ s, mt_r ng (mt_b (mt_f ng nt fe gc tc fa) z ((P * 5 + j) * 5 ^ r)) s → mt_r ng (mt_b (mt_f ng nt fe gc tc fa) z ((P * 5 + (j + 1)) * 5 ^ r)) s := fun j hj hb s R => by
      have e : (P * 5 + (j + 1)) * 5 ^ r = (P * 5 + j) * 5 ^ r + 5 ^ r := by rw [← Nat.add_assoc, Nat.succ_mul]
      rw [e, mt_skip (5 ^ r) (fun x hx => by
        unfold mt_f
        rw [ev j x (by omega) hx, if_neg (by omega), if_neg hb]
        rfl) R]
      exact R
    have eR : ∀ j, (P * 5 + j) * 5 ^ r + 5 ^ r = (P * 5 + (j + 1)) * 5 ^ r := fun j => by rw [← Nat.add_assoc, Nat.succ_mul]
    -- the digits before
    have dgs : ∀ (s : hq_S) (j : Nat), j < 5 → (∀ g, g < ng - 1 - r → ∀ x, x < 5 ^ (r + 1) → hq_gi s 222 g = mt_dg ng (P * 5 ^ (r + 1) + x) g) → ∀ v, v = (if j = 4 then -2 else Int32.ofNat j) → ∀ g, g < ng - r → ∀ x, x < 5 ^ r → hq_gi (hq_si s 222 (ng - 1 - r) v) 222 g = mt_dg ng ((P * 5 + j) * 5 ^ r + x) g := fun s j hj D v hv g hg x hx => by
      rw [nb_ii]
      by_cases q : g = ng - 1 - r
      · subst q
        rw [if_pos ⟨rfl, rfl⟩, hv]
        unfold mt_dg
        rw [show ng - 1 - (ng - 1 - r) = r by omega, dj j x hj hx]
      · rw [if_neg (fun z => q z.2), eP j x]
        exact D g (by omega) _ (lx j x hj hx)
    have key : ∀ (q j m : Nat) (s : hq_S), j + q = nt → q < m → mt_M nc ng nt fe gc tc fa s → mt_r ng (mt_b (mt_f ng nt fe gc tc fa) z ((P * 5 + j) * 5 ^ r)) s → (∀ g, g < ng - 1 - r → ∀ x, x < 5 ^ (r + 1) → hq_gi s 222 g = mt_dg ng (P * 5 ^ (r + 1) + x) g) → ∃ s', f_X12_matches_L80 N (f_X12_matches_G N k 0) m (Int32.ofNat (ng - 1 - r)) (Int32.ofNat us) (Int32.ofNat c) (Int32.ofNat d) (Int32.ofNat j) s = some s' ∧ mt_k s s' ∧ mt_r ng (mt_b (mt_f ng nt fe gc tc fa) z ((P * 5 + 5) * 5 ^ r)) s' ∧ ∀ g, g < ng - 1 - r → hq_gi s' 222 g = hq_gi s 222 g := by
      intro q
      induction q with
      | zero =>
        intro j m s hj hm M R D
        obtain ⟨m, rfl⟩ : ∃ k, m = k + 1 := ⟨m - 1, by omega⟩
        have hj : j = nt := by omega
        subst hj
        have l3 : hq_ld s 176 14 3 = some (Int32.ofNat j) := by rw [nb_lit 3, nn_ld (by omega) (by omega), M.1.2]
        have cc : ¬ Int32.ofNat j < Int32.ofNat j := by rw [nn_lt (by omega) (by omega)]; omega
        -- up to the digit of nobody
        have up : ∀ n i, i + n = 4 → j ≤ i → mt_r ng (mt_b (mt_f ng j fe gc tc fa) z ((P * 5 + i) * 5 ^ r)) s → mt_r ng (mt_b (mt_f ng j fe gc tc fa) z ((P * 5 + 4) * 5 ^ r)) s := by
          intro n
          induction n with
          | zero => intro i hi _ R; rw [show i = 4 by omega] at R; exact R
          | succ n ihn => intro i hi hji R; exact ihn (i + 1) (by omega) (by omega) (bad i (by omega) (fun h => by omega) s R)
        have R4 := up (4 - j) j (by omega) (Nat.le_refl _) R
        have st : hq_st s 222 3 (Int32.ofNat (ng - 1 - r)) (-2) = some (hq_si s 222 (ng - 1 - r) (-2)) := nn_st (by omega) (by omega)
        have o : ∀ c i, ¬ c = 222 → hq_gi (hq_si s 222 (ng - 1 - r) (-2)) c i = hq_gi s c i := fun c i h => by rw [nb_ii, if_neg (fun z => h z.1)]
        have R5 : mt_r ng (mt_b (mt_f ng j fe gc tc fa) z ((P * 5 + 4) * 5 ^ r)) (hq_si s 222 (ng - 1 - r) (-2)) := by
          unfold mt_r at R4 ⊢
          simp only [o _ _ (show ¬ 174 = 222 by omega), o _ _ (show ¬ 223 = 222 by omega)]
          exact R4
        obtain ⟨s', e1, e2, e3, e4⟩ := ih k (P * 5 + 4) us c d (hq_si s 222 (ng - 1 - r) (-2)) (by omega) (by omega) hus (by omega) (by omega) (fun x hx => by rw [ev 4 x (by omega) hx, if_pos rfl]) (mt_M_k (fun c i _ h _ => o c i h) M) R5 (dgs s 4 (by omega) D (-2) rfl)
        have eg2 : ng - 1 - r + 1 = ng - r := by omega
        refine ⟨s', ?_, fun c i h1 h2 h3 => by rw [e2 c i h1 h2 h3, o c i h2], e3, fun g hg => by rw [e4 g (by omega), nb_ii, if_neg (fun z => by omega)]⟩
        simp only [f_X12_matches_L80_s, f_X12_matches_L80_B, l3, Option.bind_some, if_neg cc, st, nn_succ, eg2, e1]
      | succ q ihq =>
        intro j m s hj hm M R D
        obtain ⟨m, rfl⟩ : ∃ k, m = k + 1 := ⟨m - 1, by omega⟩
        have l3 : hq_ld s 176 14 3 = some (Int32.ofNat nt) := by rw [nb_lit 3, nn_ld (by omega) (by omega), M.1.2]
        have cc : Int32.ofNat j < Int32.ofNat nt := (nn_lt (by omega) (by omega)).mpr (by omega)
        have b1 := nb_bit1 (show us < 2147483648 by omega) (show j < 32 by omega)
        have hfr := mt_free (N := N) hnt M (show j < nt by omega)
        have d10 : ¬ (1 : Int32) = 0 := by decide
        by_cases q1 : us.testBit j = true
        · obtain ⟨s', e⟩ := ihq (j + 1) m s (by omega) (by omega) M (bad j (by omega) (fun h => by rw [q1] at h; cases h.2.2) s R) D
          refine ⟨s', ?_, e.2⟩
          rw [← e.1]
          simp only [f_X12_matches_L80_s, f_X12_matches_L80_B, l3, Option.bind_some, if_pos cc, b1, if_pos q1, nn_succ]
        · by_cases q2 : fe j = true
          · rw [if_pos q2] at hfr
            have q3 : us.testBit j = false := by cases h : us.testBit j with | true => exact absurd h q1 | false => rfl
            have g1 := (M.2.2.1 (ng - 1 - r) (by omega)).1
            have g2 := (M.2.2.2.1 j (by omega)).1
            have o : ∀ c i, ¬ c = 222 → hq_gi (hq_si s 222 (ng - 1 - r) (Int32.ofNat j)) c i = hq_gi s c i := fun c i h => by rw [nb_ii, if_neg (fun z => h z.1)]
            have st : hq_st s 222 3 (Int32.ofNat (ng - 1 - r)) (Int32.ofNat j) = some (hq_si s 222 (ng - 1 - r) (Int32.ofNat j)) := nn_st (by omega) (by omega)
            have M1 : mt_M nc ng nt fe gc tc fa (hq_si s 222 (ng - 1 - r) (Int32.ofNat j)) := mt_M_k (fun c i _ h _ => o c i h) M
            have R1 : mt_r ng (mt_b (mt_f ng nt fe gc tc fa) z ((P * 5 + j) * 5 ^ r)) (hq_si s 222 (ng - 1 - r) (Int32.ofNat j)) := by
              unfold mt_r at R ⊢
              simp only [o _ _ (show ¬ 174 = 222 by omega), o _ _ (show ¬ 223 = 222 by omega)]
              exact R
            have l1 : hq_ld (hq_si s 222 (ng - 1 - r) (Int32.ofNat j)) 200 69 (Int32.ofNat (ng - 1 - r)) = some (Int32.ofNat (gc (ng - 1 - r))) := by rw [nn_ld (by omega) (by omega), (M1.2.2.1 _ (by omega)).2]
            have l2 : hq_ld (hq_si s 222 (ng - 1 - r) (Int32.ofNat j)) 203 92 (Int32.ofNat j) = some (Int32.ofNat (tc j)) := by rw [nn_ld (by omega) (by omega), (M1.2.2.2.1 j (by omega)).2]
            have l4 : hq_ld (hq_si s 222 (ng - 1 - r) (Int32.ofNat j)) 207 100 (Int32.ofNat (10 * gc (ng - 1 - r) + tc j)) = some (Int32.ofNat (fa (gc (ng - 1 - r)) (tc j))) := by rw [nn_ld (by omega) (by omega), M1.2.2.2.2 _ _ g1 g2]
            have hf1 := hfa (gc (ng - 1 - r)) (tc j)
            have h2 : us ||| 2 ^ j < 16 := nb_lt_or (k := 4) hus (nb_2lt (k := 4) (by omega))
            obtain ⟨s1, e1, e2, e3, e4⟩ := ih k (P * 5 + j) (us ||| 2 ^ j) (c + 1) (d + fa (gc (ng - 1 - r)) (tc j)) (hq_si s 222 (ng - 1 - r) (Int32.ofNat j)) (by omega) (by omega) h2 (by omega) (by omega) (fun x hx => by rw [ev j x (by omega) hx, if_neg (by omega), if_pos ⟨by omega, q2, q3⟩]) M1 R1 (dgs s j (by omega) D (Int32.ofNat j) (by rw [if_neg (by omega)]))
            have k1 : mt_k s s1 := fun c i h1 h2 h3 => by rw [e2 c i h1 h2 h3, o c i h2]
            have g222 : ∀ g, g < ng - 1 - r → hq_gi s1 222 g = hq_gi s 222 g := fun g hg => by rw [e4 g (by omega), nb_ii, if_neg (fun z => by omega)]
            obtain ⟨s', f1, f2, f3, f4⟩ := ihq (j + 1) m s1 (by omega) (by omega) (mt_M_k k1 M) e3 (fun g hg x hx => by rw [g222 g hg]; exact D g hg x hx)
            have eg2 : ng - 1 - r + 1 = ng - r := by omega
            refine ⟨s', ?_, fun c i h1 h2 h3 => by rw [f2 c i h1 h2 h3, k1 c i h1 h2 h3], f3, fun g hg => by rw [f4 g hg, g222 g hg]⟩
            rw [← f1]
            simp only [f_X12_matches_L80_s, f_X12_matches_L80_B, l3, Option.bind_some, if_pos cc, b1, if_neg q1, hfr, if_neg d10, st, l1, l2, nb_m10, nb_add, l4, nb_one (show j < 32 by omega), nb_or, nn_succ, eg2, e1]
          · rw [if_neg q2] at hfr
            obtain ⟨s', e⟩ := ihq (j + 1) m s (by omega) (by omega) M (bad j (by omega) (fun h => q2 h.2.1) s R) D
            refine ⟨s', ?_, e.2⟩
            rw [← e.1]
            simp only [f_X12_matches_L80_s, f_X12_matches_L80_B, l3, Option.bind_some, if_pos cc, b1, if_neg q1, hfr, if_true, nn_succ]
    have R0 : mt_r ng (mt_b (mt_f ng nt fe gc tc fa) z ((P * 5 + 0) * 5 ^ r)) s := by
      have e : (P * 5 + 0) * 5 ^ r = P * 5 ^ (r + 1) := by rw [Nat.add_zero, Nat.pow_succ, Nat.mul_assoc, Nat.mul_comm 5 (5 ^ r)]
      rw [e]
      exact R
    obtain ⟨s', e1, e2, e3, e4⟩ := key nt 0 N s (by omega) (by omega) M R0 (fun g hg => D g (by omega))
    have l2 : hq_ld s 176 14 2 = some (Int32.ofNat ng) := by rw [nb_lit 2, nn_ld (by omega) (by omega), M.1.1]
    have ne : ¬ Int32.ofNat (ng - 1 - r) = Int32.ofNat ng := by rw [nb_eq (by omega) (by omega)]; omega
    have eL : (P + 1) * 5 ^ (r + 1) = (P * 5 + 5) * 5 ^ r := by rw [Nat.pow_succ, Nat.mul_comm (5 ^ r) 5, ← Nat.mul_assoc, Nat.add_mul P 1 5, Nat.one_mul]
    refine ⟨s', ?_, e2, by rw [eL]; exact e3, fun g hg => e4 g (by omega)⟩
    rw [← e1, eg]
    show f_X12_matches_S N (f_X12_matches_G N k 0) _ _ _ _ s = _
    simp only [f_X12_matches_S, l2, Option.bind_some, if_neg ne]
    rfl
end
section
variable {HC : hq_S → Prop} {N : Nat}
theorem hs_op_32 (hc : hc_loc HC) (hN : 300 < N) (a1 : Int32) : hq_Sim (hR HC) (f_X11_match N a1) (f_X12_match N a1) := hs_mk hc (WX := w_X11_match) (WM := w_X12_match) (by decide) (by decide) (by decide) (fun _ _ => f_X11_match_fw) (fun _ _ => f_X12_match_fw) fun sx sm R => by
  obtain ⟨nc, nl, ng, nt, t, bar, fr, to, on, TT⟩ := R.2.2.2.2.2
  obtain ⟨I, T⟩ := hT_th 0 R.2.2.1 TT
  obtain ⟨sl, l1, lR, lF, lo⟩ := hp_lays (N := N) (by omega) I T
  obtain ⟨⟨t1, t2, t3⟩, Te, ⟨X, M, S, F, B, Bl⟩, W, -⟩ := T
  obtain ⟨⟨b1, b2, b3, b4⟩, ⟨-, -, -, -, n5, n6, n7, n8⟩, -⟩ := Te
  have iT : hq_isT t := by rcases t2 with rfl | rfl <;> decide
  by_cases h0 : a1 < 0
  · exact ⟨-1, sx, hq_si sm 174 0 0, by simp only [f_X11_match, if_pos h0], by simp only [f_X12_match, nn_pi, Option.bind_some, if_pos h0]⟩
  · by_cases h4 : (4 : Int32) < a1
    · exact ⟨-1, sx, hq_si sm 174 0 0, by simp only [f_X11_match, if_neg h0, if_pos h4], by simp only [f_X12_match, nn_pi, Option.bind_some, if_neg h0, if_pos h4]⟩
    · obtain ⟨k, hk, rfl⟩ : ∃ k : Nat, k ≤ 4 ∧ a1 = Int32.ofNat k := by
        rcases nn_le (a := a1) (n := 4) (by omega) with ⟨j, hj, e, -, -⟩ | h | ⟨-, h⟩
        · exact ⟨j, hj, e⟩
        · exact absurd h h0
        · exact absurd h h4
      -- what both look at
      have hfree : ∀ i, i < nt → f_X5_isFree N 76 (Int32.ofNat i) sx = some (if decide (hq_gi (hq_si sm 174 0 0) 205 i = -1) = true then 1 else 0, sx) := fun i hi => by
        obtain ⟨b, -, e1, e2⟩ := hh_free (N := N) (l := 0) (by omega) W b3 b4 hi
        have ld : hq_ld (hq_si sm 174 0 0) 205 92 (Int32.ofNat i) = some (hq_gi (hq_si sm 174 0 0) 205 i) := nn_ld (by omega) (by omega)
        rw [e1]
        by_cases q : hq_gi (hq_si sm 174 0 0) 205 i = -1
        · rw [if_pos (decide_eq_true q)]
          simp only [f_X12_isFree, nb_m4, nb_add, Nat.mul_zero, Nat.zero_add, ld, Option.bind_some, if_pos q] at e2
          have hv : (1 : Int32) = b := congrArg Prod.fst (Option.some.inj e2)
          rw [← hv]
        · rw [if_neg (fun h => q (of_decide_eq_true h))]
          simp only [f_X12_isFree, nb_m4, nb_add, Nat.mul_zero, Nat.zero_add, ld, Option.bind_some, if_neg q] at e2
          have hv : (0 : Int32) = b := congrArg Prod.fst (Option.some.inj e2)
          rw [← hv]
      have hgc : ∀ g, ∃ c : Nat, g < ng → c < nc ∧ hq_gi sx 78 g = Int32.ofNat c ∧ hq_gi (hq_si sm 174 0 0) 200 g = Int32.ofNat c := fun g => by
        by_cases q : g < ng
        · obtain ⟨c, c1, c2, c3⟩ := (W.2.2.2.2.2.1 g q).1
          rw [show 3 * 0 + g = g by omega] at c3
          exact ⟨c, fun _ => ⟨c1, c2, c3⟩⟩
        · exact ⟨0, fun h => absurd h q⟩
      have htc : ∀ g, ∃ c : Nat, g < nt → c < nc ∧ hq_gi sx 81 g = Int32.ofNat c ∧ hq_gi (hq_si sm 174 0 0) 203 g = Int32.ofNat c := fun g => by
        by_cases q : g < nt
        · obtain ⟨c, c1, c2, c3⟩ := (W.2.2.2.2.2.2.1 g q).1
          rw [show 4 * 0 + g = g by omega] at c3
          exact ⟨c, fun _ => ⟨c1, c2, c3⟩⟩
        · exact ⟨0, fun h => absurd h q⟩
      obtain ⟨gc, hgc⟩ := Classical.axiomOfChoice hgc
      obtain ⟨tc, htc⟩ := Classical.axiomOfChoice htc
      have hF := bf_far_lt (ly_nx fr to on bar false nl) nc
      generalize hfa : bf_far (ly_nx fr to on bar false nl) nc = fa at F lF hF
      generalize hfe : (fun i => decide (hq_gi (hq_si sm 174 0 0) 205 i = -1)) = fe
      have hfree : ∀ i, i < nt → f_X5_isFree N 76 (Int32.ofNat i) sx = some (if fe i = true then 1 else 0, sx) := fun i hi => by rw [← hfe]; exact hfree i hi
      have MX : mt_X N nc ng nt t fe gc tc fa sx := ⟨⟨b1, b3, b4⟩, ⟨t1, iT, n5, n7⟩, hfree, fun g hg => ⟨(hgc g hg).1, (hgc g hg).2.1⟩, fun i hi => ⟨(htc i hi).1, (htc i hi).2.1⟩, F, hF⟩
      have sl' : ∀ c i, ¬ c = 174 → hq_gi (hq_si (hq_si sl 174 72 (-1)) 174 73 0) c i = hq_gi sl c i := fun c i h => by rw [nb_ii, if_neg (fun z => h z.1), nb_ii, if_neg (fun z => h z.1)]
      have MM : mt_M nc ng nt fe gc tc fa (hq_si (hq_si sl 174 72 (-1)) 174 73 0) := by
        refine ⟨⟨?_, ?_⟩, fun i hi => ?_, fun g hg => ⟨(hgc g hg).1, ?_⟩, fun i hi => ⟨(htc i hi).1, ?_⟩, fun a b ha hb => ?_⟩
        · rw [sl' _ _ (by omega), lo _ _ (by omega)]; exact n6
        · rw [sl' _ _ (by omega), lo _ _ (by omega)]; exact n8
        · rw [sl' _ _ (by omega), lo _ _ (by omega), ← hfe]
          exact propext ⟨fun h => decide_eq_true h, fun h => of_decide_eq_true h⟩
        · rw [sl' _ _ (by omega), lo _ _ (by omega)]; exact (hgc g hg).2.2
        · rw [sl' _ _ (by omega), lo _ _ (by omega)]; exact (htc i hi).2.2
        · rw [sl' _ _ (by omega)]; exact lF a b ha hb
      have p := mt_p5 b3
      have p0 : 0 < 5 ^ ng := Nat.pow_pos (by omega)
      obtain ⟨s', e1, e2, e3, -⟩ := mt_dfs (N := N) (z := 5 ^ ng - 1) (by omega) b1 b3 b4 hF ng 10 0 0 0 0 (hq_si (hq_si sl 174 72 (-1)) 174 73 0) (Nat.le_refl _) (by omega) (by omega) (by omega) (by omega) (fun _ _ => rfl) MM (by
        rw [Nat.zero_mul]
        exact Or.inl ⟨rfl, by rw [nb_ii, if_neg (fun z => by omega), nb_ii, if_pos ⟨rfl, rfl⟩]⟩) (fun g hg => by omega)
      rw [Nat.sub_self] at e1
      rw [Nat.zero_add, Nat.one_mul] at e3
      have e1 : f_X12_matches N 0 0 0 0 (hq_si (hq_si sl 174 72 (-1)) 174 73 0) = some s' := e1
      have hb := mt_best (N := N) hN MX
      have hlt := mt_b_lt (f := mt_f ng nt fe gc tc fa) (z := 5 ^ ng - 1) (n := 5 ^ ng) (by omega) (5 ^ ng) (Nat.le_refl _)
      have own : ∀ n, (mt_b (mt_f ng nt fe gc tc fa) (5 ^ ng - 1) n).2 = -1 ∨ (mt_b (mt_f ng nt fe gc tc fa) (5 ^ ng - 1) n).2 = mt_f ng nt fe gc tc fa (mt_b (mt_f ng nt fe gc tc fa) (5 ^ ng - 1) n).1 := by
        intro n
        induction n with
        | zero => exact Or.inl rfl
        | succ n ih =>
          rw [mt_b]
          split
          · exact Or.inr rfl
          · exact ih
      -- nobody at all is a row
      have last : mt_f ng nt fe gc tc fa (5 ^ ng - 1) = Int32.ofNat 999 := by
        have key : ∀ r, r ≤ ng → mt_ev nt ng fe (fun g i => fa (gc g) (tc i)) (5 ^ ng - 1) r 0 0 0 = some (0, 0) := by
          intro r
          induction r with
          | zero => intro _; rfl
          | succ r ih =>
            intro hr
            have dg : ∀ n, n < 4 → ∀ r, r < n → (5 ^ n - 1) / 5 ^ r % 5 = 4 := by decide
            rw [mt_ev, if_pos (dg ng (by omega) r (by omega)), ih (by omega)]
        unfold mt_f
        rw [key ng (Nat.le_refl _)]
        rfl
      have some1 : ¬ (mt_b (mt_f ng nt fe gc tc fa) (5 ^ ng - 1) (5 ^ ng)).2 = -1 := by
        obtain ⟨n, hn⟩ : ∃ n, 5 ^ ng = n + 1 := ⟨5 ^ ng - 1, by omega⟩
        have hn1 : 5 ^ ng - 1 = n := by omega
        rw [hn1] at last
        rw [hn, Nat.add_sub_cancel, mt_b]
        by_cases q : (mt_b (mt_f ng nt fe gc tc fa) n n).2 < mt_f ng nt fe gc tc fa n
        · rw [if_pos q]
          show ¬ mt_f ng nt fe gc tc fa n = -1
          rw [last]; decide
        · rw [if_neg q]
          intro h
          rw [h, last] at q
          exact q (by decide)
      have own := own (5 ^ ng)
      generalize mt_b (mt_f ng nt fe gc tc fa) (5 ^ ng - 1) (5 ^ ng) = BB at e3 hb hlt some1 own
      have own := own.resolve_left some1
      rcases e3 with ⟨h, -⟩ | ⟨c, d, h1, h2, r1, r2, r3, r4⟩
      · exact absurd h some1
      · have sc := mt_sco (row := BB.1) (by omega) MX (by omega)
        rw [← own, r1] at sc
        have k3 : (Int32.ofNat k = (3 : Int32)) = (k = 3) := nb_eq (b := 3) (by omega) (by omega)
        have k4 : (Int32.ofNat k = (4 : Int32)) = (k = 4) := nb_eq (b := 4) (by omega) (by omega)
        have kl := nb_ltp (show k < 2147483648 by omega) (show ng < 2147483648 by omega)
        have l2 : hq_ld s' 176 14 2 = some (Int32.ofNat ng) := by rw [nb_lit 2, nn_ld (by omega) (by omega), (mt_M_k e2 MM).1.1]
        by_cases q3 : k = 3
        · have dv : hq_idiv (Int32.ofNat (1000 * c + 999 - d)) (1000 : Int32) = some (Int32.ofNat c) := by
            have h : hq_idiv (Int32.ofNat (1000 * c + 999 - d)) (1000 : Int32) = some (Int32.ofNat ((1000 * c + 999 - d) / 1000)) := nb_div (d := 1000) (by omega) (by omega) (by omega)
            rw [h, show (1000 * c + 999 - d) / 1000 = c by omega]
          refine ⟨Int32.ofNat c, sx, s', ?_, ?_⟩
          · simp only [f_X11_match, if_neg h0, if_neg h4, hb, sc, Option.bind_some, k3, if_pos q3, dv]
          · simp only [f_X12_match, nn_pi, Option.bind_some, if_neg h0, if_neg h4, l1, e1, k3, if_pos q3, r2]
        · by_cases q4 : k = 4
          · have rm : hq_irem (Int32.ofNat (1000 * c + 999 - d)) (1000 : Int32) = some (Int32.ofNat (999 - d)) := by
              have h : hq_irem (Int32.ofNat (1000 * c + 999 - d)) (1000 : Int32) = some (Int32.ofNat ((1000 * c + 999 - d) % 1000)) := nb_rem (d := 1000) (by omega) (by omega) (by omega)
              rw [h, show (1000 * c + 999 - d) % 1000 = 999 - d by omega]
            have sb : (999 : Int32) - Int32.ofNat (999 - d) = Int32.ofNat d := by
              have h : (999 : Int32) - Int32.ofNat (999 - d) = Int32.ofNat (999 - (999 - d)) := nb_sub (a := 999) (by omega)
              rw [h, show 999 - (999 - d) = d by omega]
            refine ⟨Int32.ofNat d, sx, s', ?_, ?_⟩
            · simp only [f_X11_match, if_neg h0, if_neg h4, hb, sc, Option.bind_some, k3, if_neg q3, k4, if_pos q4, rm, sb]
            · simp only [f_X12_match, nn_pi, Option.bind_some, if_neg h0, if_neg h4, l1, e1, k3, if_neg q3, k4, if_pos q4, r3]
          · by_cases q5 : k < ng
            · have tr := mt_row (row := BB.1) (r := ng - 1 - k) (by omega) MX (by omega) (by omega)
              rw [show ng - 1 - (ng - 1 - k) = k by omega] at tr
              have l3 : hq_ld s' 223 3 (Int32.ofNat k) = some (mt_dg ng BB.1 k) := by rw [nn_ld (by omega) (by omega), r4 k q5]
              have h5 : BB.1 / 5 ^ (ng - 1 - k) % 5 < 5 := Nat.mod_lt _ (by omega)
              have z4 : (Int32.ofNat (BB.1 / 5 ^ (ng - 1 - k) % 5) = (4 : Int32)) = (BB.1 / 5 ^ (ng - 1 - k) % 5 = 4) := nb_eq (b := 4) (by omega) (by omega)
              refine ⟨mt_dg ng BB.1 k, sx, s', ?_, ?_⟩
              · by_cases q6 : BB.1 / 5 ^ (ng - 1 - k) % 5 = 4
                · simp only [f_X11_match, if_neg h0, if_neg h4, hb, sc, Option.bind_some, k3, if_neg q3, k4, if_neg q4, t1, if_pos iT, n5, kl, if_pos q5, tr, z4, if_pos q6, mt_dg]
                · simp only [f_X11_match, if_neg h0, if_neg h4, hb, sc, Option.bind_some, k3, if_neg q3, k4, if_neg q4, t1, if_pos iT, n5, kl, if_pos q5, tr, z4, if_neg q6, mt_dg]
              · simp only [f_X12_match, nn_pi, Option.bind_some, if_neg h0, if_neg h4, l1, e1, k3, if_neg q3, k4, if_neg q4, l2, kl, if_pos q5, l3]
            · refine ⟨-2, sx, s', ?_, ?_⟩
              · simp only [f_X11_match, if_neg h0, if_neg h4, hb, sc, Option.bind_some, k3, if_neg q3, k4, if_neg q4, t1, if_pos iT, n5, kl, if_neg q5]
              · simp only [f_X12_match, nn_pi, Option.bind_some, if_neg h0, if_neg h4, l1, e1, k3, if_neg q3, k4, if_neg q4, l2, kl, if_neg q5]
end
