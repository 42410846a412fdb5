/-! THE READER: the next token of both -/
/-- a token: kind (the class's number), the class's value, the reference's value -/
def tk_v (q a b : Nat) : Prop := q ≤ 5 ∧ (q = 2 → a = b ∧ a < 1073741824) ∧ (q = 3 → a < 22 ∧ b = tk_c a) ∧ (q = 4 → nr a b) ∧ (q = 5 → a = b ∧ (sgm a = true ∨ a = 256 ∨ a = 257 ∨ a = 258))
def tk_s (q : Nat) : Nat := if q = 0 then 4 else if q = 1 then 5 else if q = 2 then 1 else if q = 3 then 0 else if q = 4 then 2 else 3
def tk_R (t : Nat → Nat) (L p pl q a b : Nat) (sx sm : hq_S) : Prop := tkX t L sx ∧ tkM t L sm ∧ (pl ≤ p ∧ p ≤ L ∧ (¬ q = 0 → pl < p)) ∧ (hq_gi sx 49 3 = Int32.ofNat p ∧ hq_gi sm 174 24 = Int32.ofNat p) ∧ (hq_gi sx 49 6 = Int32.ofNat pl ∧ hq_gi sm 174 25 = Int32.ofNat pl) ∧ (hq_gi sx 49 4 = Int32.ofNat q ∧ hq_gi sm 174 26 = Int32.ofNat (tk_s q)) ∧ tk_v q a b ∧ (2 ≤ q → hq_gi sx 49 5 = Int32.ofNat a ∧ hq_gi sm 174 27 = Int32.ofNat b)
theorem nn_nm1 {k : Nat} (h : k < 2147483648) : ¬ Int32.ofNat k = -1 := fun q => by
  have := congrArg Int32.toInt q
  rw [nn_toInt h, show (-1 : Int32).toInt = -1 from rfl] at this
  omega
section
variable {N L : Nat} {t : Nat → Nat}
theorem tm_wrd_v (hN : 40 < N) (hL : L ≤ 700) {p e : Nat} (hp : p ≤ e) (he : e ≤ L) (hl : ∀ i, p ≤ i → i < e → isL (t i)) {s : hq_S} (hb : ∀ i, i < L → t i < 256) (M : tkM t L s) (e4 : hq_gi s 174 24 = Int32.ofNat e) (e5 : hq_gi s 174 25 = Int32.ofNat p) : ∃ s', tm_wrd N s = some s' ∧ kz 174 [26, 27] s s' ∧ ((∃ k, k < 22 ∧ eqw t p e k ∧ hq_gi s' 174 26 = 0 ∧ hq_gi s' 174 27 = Int32.ofNat k) ∨ ((∀ k, k < 22 → ¬ eqw t p e k) ∧ 6 < e - p ∧ hq_gi s' 174 26 = 5) ∨ ((∀ k, k < 22 → ¬ eqw t p e k) ∧ ¬ 6 < e - p ∧ hq_gi s' 174 26 = 1 ∧ hq_gi s' 174 27 = Int32.ofNat (pw (cut (dl t p) (e - p))))) := by
  unfold tm_wrd
  rcases tm_word hN hL hp he hb M e4 e5 with ⟨k, hk, h1, h2⟩ | ⟨h1, h2⟩
  · rw [h2]
    simp only [Option.bind_some]
    rw [nn_pi]
    simp only [Option.bind_some]
    rw [nn_g1, if_neg (nn_nm1 (by omega))]
    simp only [Option.bind_some]
    rw [nn_pi]
    simp only [Option.bind_some]
    rw [nn_g1, if_neg (by decide)]
    exact ⟨_, rfl, kz_tr (kz_si (by decide)) (kz_si (by decide)), Or.inl ⟨k, hk, h1, nn_g1, (nn_gn (by omega)).trans nn_g1⟩⟩
  · rw [h2]
    simp only [Option.bind_some]
    rw [nn_pi]
    simp only [Option.bind_some]
    rw [nn_g1, if_pos rfl, nn_gn (by omega), nn_gn (by omega), e4, e5, nb_sub hp, show (6 : Int32) = Int32.ofNat 6 from rfl, ie (nb_ltp (by omega) (by omega))]
    by_cases c : 6 < e - p
    · rw [if_pos c]
      simp only [Option.bind_some]
      rw [nn_pi]
      simp only [Option.bind_some]
      rw [nn_g1, if_neg (by decide)]
      exact ⟨_, rfl, kz_tr (kz_si (by decide)) (kz_si (by decide)), Or.inr (Or.inl ⟨h1, c, nn_g1⟩)⟩
    · rw [if_neg c]
      simp only [Option.bind_some]
      rw [nn_pi]
      simp only [Option.bind_some]
      rw [nn_g1, if_pos rfl]
      have k1 : kz 174 [26, 27] s (hq_si (hq_si s 174 27 (-1)) 174 26 1) := kz_tr (kz_si (by decide)) (kz_si (by decide))
      obtain ⟨s', q1, q2, q3⟩ := tm_name (N := N) (by omega) hL hp he hl (tkM_k M (kz_mono k1 (by decide))) ((kz_no k1 (by decide)).trans e4) ((kz_no k1 (by decide)).trans e5)
      rw [q1]
      exact ⟨s', rfl, kz_tr k1 (kz_mono q3 (by decide)), Or.inr (Or.inr ⟨h1, c, (kz_no q3 (by decide)).trans nn_g1, q2⟩)⟩
theorem tk_adv (hN : 1000 < N) {p : Nat} {sx sm : hq_S} (X : tkX t L sx) (M : tkM t L sm) (hp : p ≤ L) (ex : hq_gi sx 49 3 = Int32.ofNat p) (em : hq_gi sm 174 24 = Int32.ofNat p) : ∃ p' pl q a b sx' sm', f_X9_advance N sx = some sx' ∧ f_X12_token N sm = some sm' ∧ tk_R t L p' pl q a b sx' sm' ∧ p ≤ pl ∧ kz 49 FX sx sx' ∧ kz 174 FM sm sm' := by
  have hL := X.1
  have hb : ∀ i, i < L → t i < 256 := fun i hi => (X.2.2.2.1 i hi).1
  obtain ⟨pl, sx1, a1, a2, a3, a4, a5, a6, a7⟩ := tx_skip (N := N) (L - p) p N sx X (by omega) ex (by omega)
  obtain ⟨pl', sm1, b1, b2, b3, b4, b5, b6, b7⟩ := tm_skip (N := N) hL hb (L - p) p N sm M (by omega) em (by omega)
  obtain rfl := sk_uniq a1 a2 a3 a4 b1 b2 b3 b4
  have X1 := tkX_k X a7
  have M1 := tkM_k M b7
  obtain ⟨s3, h3⟩ : ∃ w, w = hq_si (hq_si sx1 49 6 (Int32.ofNat pl)) 49 5 0 := ⟨_, rfl⟩
  obtain ⟨s6, h6⟩ : ∃ w, w = hq_si sm1 174 25 (Int32.ofNat pl) := ⟨_, rfl⟩
  have kx3 : kz 49 FX sx s3 := by rw [h3]; exact kz_tr a7 (kz_tr (kz_si (by decide)) (kz_si (by decide)))
  have km6 : kz 174 FM sm s6 := by rw [h6]; exact kz_tr b7 (kz_si (by decide))
  have X3 := tkX_k X kx3
  have M6 := tkM_k M km6
  have x3 : hq_gi s3 49 3 = Int32.ofNat pl := by rw [h3, nn_gn (by omega), nn_gn (by omega)]; exact a6
  have x6 : hq_gi s3 49 6 = Int32.ofNat pl := by rw [h3, nn_gn (by omega), nn_g1]
  have x5 : hq_gi s3 49 5 = 0 := by rw [h3, nn_g1]
  have m4 : hq_gi s6 174 24 = Int32.ofNat pl := by rw [h6, nn_gn (by omega)]; exact b6
  have m5 : hq_gi s6 174 25 = Int32.ofNat pl := by rw [h6, nn_g1]
  have rx : f_X9_advance N sx = (if pl < L then if sb (t pl) < (97 : Int32) then f_X9_advance_J128 N (sb (t pl)) s3 else if (122 : Int32) < sb (t pl) then f_X9_advance_J128 N (sb (t pl)) s3 else (f_X9_takeWord N s3).bind fun s18 => some s18 else (hq_pi s3 49 4 0 (0 : Int32)).bind fun s19 => some s19) := by
    unfold f_X9_advance
    rw [a5]
    unfold f_X9_advance_J52
    rw [nn_pi, a6]
    simp only [Option.bind_some]
    rw [nn_pi]
    simp only [Option.bind_some]
    rw [← h3, x3, ie (tkX_at X3 a2)]
    by_cases q : pl < L
    · rw [if_pos q, if_pos q, tkX_ld X3 q]
      simp only [Option.bind_some]
      rw [ie (tkX_at X3 a2), if_pos q]
    · rw [if_neg q, if_neg q]
      simp only [Option.bind_some]
      rw [ie (tkX_at X3 a2), if_neg q]
  have rm : f_X12_token N sm = (if pl < L then (if isL (t pl) then f_X12_token_L64 N N (Int32.ofNat (t pl)) s6 else if isD (t pl) then (hq_pi s6 174 26 0 (2 : Int32)).bind fun s14 => (hq_pi s14 174 27 0 (0 : Int32)).bind fun s15 => f_X12_token_L162 N N (Int32.ofNat (t pl)) s15 else f_X12_sign N (Int32.ofNat (t pl)) s6) else some (hq_si s6 174 26 4)) := by
    unfold f_X12_token
    rw [b5]
    unfold tm_tok
    rw [nn_pi, b6]
    simp only [Option.bind_some]
    rw [← h6, tkM_here hL M6 a2 m4]
    simp only [Option.bind_some]
    by_cases q : pl < L
    · have c0 := hb pl q
      rw [if_pos q, if_pos q, if_neg (nn_nm1 (by omega)), isSmall_v c0]
      simp only [Option.bind_some]
      by_cases c : isL (t pl)
      · rw [if_pos c, if_pos (show 97 ≤ t pl ∧ t pl ≤ 122 from c), if_neg (by decide)]
      · rw [if_neg c, if_neg (show ¬ (97 ≤ t pl ∧ t pl ≤ 122) from c), if_pos rfl, isDigit_v c0]
        simp only [Option.bind_some]
        by_cases d : isD (t pl)
        · rw [if_pos d, if_pos (show 48 ≤ t pl ∧ t pl ≤ 57 from d), if_neg (by decide)]
        · rw [if_neg d, if_neg (show ¬ (48 ≤ t pl ∧ t pl ≤ 57) from d), if_pos rfl]
          cases f_X12_sign N (Int32.ofNat (t pl)) s6 <;> rfl
    · rw [if_neg q, if_neg q, if_pos rfl]
      rfl
  by_cases q : pl < L
  · have c0 := hb pl q
    rw [if_pos q] at rx rm
    by_cases c : isL (t pl)
    · -- a word
      have c' := c
      unfold isL at c'
      rw [ie (sb_97 _ c0), if_neg (by omega), ie (sb_122 _ c0), if_neg (by omega)] at rx
      rw [if_pos c] at rm
      obtain ⟨e, s4, d1, d2, d3, d4, d5, d6, d7, d8⟩ := tx_word (N := N) (pl := pl) (L - pl) pl N 0 s3 X3 (by omega) x3 x6 (by omega) (by rw [x5]; simp [pw, cut]) (by omega)
      obtain ⟨e', s7, f1, f2, f3, f4, f5, f6, f7⟩ := tm_wl (N := N) hL hb (a1 := Int32.ofNat (t pl)) (L - pl) pl N s6 M6 (by omega) m4 (by omega)
      obtain rfl := wl_uniq d1 d2 d4 d3 f1 f2 f4 f3
      have hpe : pl < e := by
        rcases Nat.lt_or_ge pl e with h | h
        · exact h
        · have : e = pl := by omega
          rw [this] at d4
          exact absurd c (d4 q)
      have k7 : kz 174 FM sm s7 := kz_tr km6 (kz_mono f7 (by decide))
      have M7 := tkM_k M k7
      obtain ⟨sm', g1, g2, g3⟩ := tm_wrd_v (N := N) (by omega) hL d1 d2 d3 hb M7 f6 ((kz_no f7 (by decide)).trans m5)
      have km' : kz 174 FM sm sm' := kz_tr k7 (kz_mono g2 (by decide))
      have rm' : f_X12_token N sm = some sm' := by rw [rm, f5, g1]
      have me4 : hq_gi sm' 174 24 = Int32.ofNat e := (kz_no g2 (by decide)).trans f6
      have me5 : hq_gi sm' 174 25 = Int32.ofNat pl := (kz_no g2 (by decide)).trans ((kz_no f7 (by decide)).trans m5)
      have k4 : kz 49 FX sx s4 := kz_tr kx3 (kz_mono d8 (by decide))
      have X4 := tkX_k X k4
      have x46 : hq_gi s4 49 6 = Int32.ofNat pl := (kz_no d8 (by decide)).trans x6
      have rx1 : f_X9_advance N sx = (f_X9_takeWord_J99 N s4).bind fun s18 => some s18 := by
        rw [rx]
        unfold f_X9_takeWord
        rw [d5]
      unfold f_X9_takeWord_J99 at rx1
      rw [d6, x46, nb_sub d1, show (6 : Int32) = Int32.ofNat 6 from rfl, ie (nb_ltp (by omega) (by omega))] at rx1
      by_cases l : 6 < e - pl
      · -- too long
        have k5 : kz 49 FX sx (hq_si s4 49 4 1) := kz_tr k4 (kz_si (by decide))
        have g26 : hq_gi sm' 174 26 = 5 := by
          rcases g3 with ⟨k, hk, w, -⟩ | ⟨-, -, h⟩ | ⟨-, h, -⟩
          · have := (wl_ok k hk).1.2.2.1
            have := w.1
            omega
          · exact h
          · exact absurd l h
        refine ⟨e, pl, 1, 0, 0, hq_si s4 49 4 1, sm', ?_, rm', ⟨tkX_k X k5, tkM_k M km', ⟨by omega, d2, fun _ => hpe⟩, ⟨(nn_gn (by omega)).trans d6, me4⟩, ⟨(nn_gn (by omega)).trans x46, me5⟩, ⟨nn_g1, g26⟩, ⟨by omega, fun h => by omega, fun h => by omega, fun h => by omega, fun h => by omega⟩, fun h => by omega⟩, a1, k5, km'⟩
        rw [rx1, if_pos l]
        simp only [Option.bind_some]
        rw [nn_pi]
        simp only [Option.bind_some]
        obtain ⟨n, hn⟩ : ∃ n, N = n + 1 := ⟨N - 1, by omega⟩
        have : f_X9_takeWord_L124 N N (0 : Int32) (hq_si s4 49 4 1) = some (hq_si s4 49 4 1) := by
          conv => lhs; rw [hn]
          rw [f_X9_takeWord_L124_s]
          unfold f_X9_takeWord_L124_B
          rw [if_pos (by decide), nn_g1, if_neg (by decide)]
        rw [this]
        rfl
      · have vlt : pw (cut (dl t pl) (e - pl)) < 1073741824 := pw_lt (cut_lt (fun i => dl_lt pl i) _)
        have k5 : kz 49 FX sx (hq_si s4 49 4 2) := kz_tr k4 (kz_si (by decide))
        obtain ⟨sx', r1, r2, r3⟩ := tx_keys (N := N) (v := pw (cut (dl t pl) (e - pl))) (by omega) (m := N) (s := hq_si s4 49 4 2) (tkX_k X k5).2.2.2.2 (by omega) nn_g1 ((nn_gn (by omega)).trans d7)
        have kx' : kz 49 FX sx sx' := kz_tr k5 (kz_mono r3 (by decide))
        have rx' : f_X9_advance N sx = some sx' := by
          rw [rx1, if_neg l]
          simp only [Option.bind_some]
          rw [nn_pi]
          simp only [Option.bind_some]
          rw [show (0 : Int32) = Int32.ofNat 0 from rfl, r1]
          rfl
        have y3 : hq_gi sx' 49 3 = Int32.ofNat e := (kz_no r3 (by decide)).trans ((nn_gn (by omega)).trans d6)
        have y6 : hq_gi sx' 49 6 = Int32.ofNat pl := (kz_no r3 (by decide)).trans ((nn_gn (by omega)).trans x46)
        rcases r2 with ⟨j, hj, hv, u4, u5⟩ | ⟨hv, u4, u5⟩
        · have w := (kk_eqw hj d1 (by omega) d3).mp hv
          have hc := (kk_ok j hj).2
          have g26 : hq_gi sm' 174 26 = 0 ∧ hq_gi sm' 174 27 = Int32.ofNat (tk_c j) := by
            rcases g3 with ⟨k, hk, w', h1, h2⟩ | ⟨h, -⟩ | ⟨h, -⟩
            · obtain rfl := eqw_u hk hc w' w
              exact ⟨h1, h2⟩
            · exact absurd w (h _ hc)
            · exact absurd w (h _ hc)
          exact ⟨e, pl, 3, j, tk_c j, sx', sm', rx', rm', ⟨tkX_k X kx', tkM_k M km', ⟨by omega, d2, fun _ => hpe⟩, ⟨y3, me4⟩, ⟨y6, me5⟩, ⟨u4, g26.1⟩, ⟨by omega, fun h => by omega, fun h => ⟨hj, rfl⟩, fun h => by omega, fun h => by omega⟩, fun _ => ⟨u5, g26.2⟩⟩, a1, kx', km'⟩
        · have g26 : hq_gi sm' 174 26 = 1 ∧ hq_gi sm' 174 27 = Int32.ofNat (pw (cut (dl t pl) (e - pl))) := by
            rcases g3 with ⟨k, hk, w', h1, h2⟩ | ⟨-, h, -⟩ | ⟨-, -, h⟩
            · obtain ⟨j, hj, rfl⟩ := tk_c_inv k hk
              exact absurd ((kk_eqw hj d1 (by omega) d3).mpr w') (hv j (by omega) hj)
            · exact absurd h l
            · exact h
          exact ⟨e, pl, 2, _, _, sx', sm', rx', rm', ⟨tkX_k X kx', tkM_k M km', ⟨by omega, d2, fun _ => hpe⟩, ⟨y3, me4⟩, ⟨y6, me5⟩, ⟨u4, g26.1⟩, ⟨by omega, fun h => ⟨rfl, vlt⟩, fun h => by omega, fun h => by omega, fun h => by omega⟩, fun _ => ⟨u5, g26.2⟩⟩, a1, kx', km'⟩
    · have rx1 : f_X9_advance N sx = f_X9_advance_J128 N (sb (t pl)) s3 := by
        rw [rx, ie (sb_97 _ c0), ie (sb_122 _ c0)]
        unfold isL at c
        by_cases w : t pl < 97 ∨ 128 ≤ t pl
        · rw [if_pos w]
        · rw [if_neg w, if_pos (by omega)]
      rw [if_neg c] at rm
      unfold f_X9_advance_J128 at rx1
      rw [ie (sb_48 _ c0), ie (sb_57 _ c0)] at rx1
      by_cases d : isD (t pl)
      · -- a number
        have d' := d
        unfold isD at d'
        rw [if_neg (by omega), if_neg (by omega)] at rx1
        rw [if_pos d, nn_pi] at rm
        simp only [Option.bind_some] at rm
        rw [nn_pi] at rm
        simp only [Option.bind_some] at rm
        unfold f_X9_takeNumber at rx1
        rw [nn_pi] at rx1
        simp only [Option.bind_some] at rx1
        have k4 : kz 49 FX sx (hq_si s3 49 4 4) := kz_tr kx3 (kz_si (by decide))
        have k7 : kz 174 FM sm (hq_si (hq_si s6 174 26 2) 174 27 0) := kz_tr km6 (kz_tr (kz_si (by decide)) (kz_si (by decide)))
        obtain ⟨e, a', b', sx', sm', q1, q2, q3, q4, q5, q6, q7, q8, q9, q10, q11, q12⟩ := tk_num (N := N) hL (a1 := Int32.ofNat (t pl)) (L - pl) pl N N 0 0 _ _ (tkX_k X k4) (tkM_k M k7) (by omega) ((nn_gn (by omega)).trans x3) (by rw [nn_gn (by omega), nn_gn (by omega)]; exact m4) (by rw [nn_gn (by omega)]; exact x5) nn_g1 (by unfold nr; omega) (by omega) (by omega)
        have kx' : kz 49 FX sx sx' := kz_tr k4 (kz_mono q11 (by decide))
        have km' : kz 174 FM sm sm' := kz_tr k7 (kz_mono q12 (by decide))
        refine ⟨e, pl, 4, a', b', sx', sm', by rw [rx1, q4]; rfl, by rw [rm, q5], ⟨tkX_k X kx', tkM_k M km', ⟨q1, q2, fun _ => q3 q d⟩, ⟨q6, q7⟩, ⟨?_, ?_⟩, ⟨?_, ?_⟩, ⟨by omega, fun h => by omega, fun h => by omega, fun _ => q10, fun h => by omega⟩, fun _ => ⟨q8, q9⟩⟩, a1, kx', km'⟩
        · rw [kz_no q11 (by decide), nn_gn (by omega)]; exact x6
        · rw [kz_no q12 (by decide), nn_gn (by omega), nn_gn (by omega)]; exact m5
        · rw [kz_no q11 (by decide), nn_g1]; rfl
        · rw [kz_no q12 (by decide), nn_gn (by omega), nn_g1]; rfl
      · -- a sign
        have rx2 : f_X9_advance N sx = f_X9_advance_J147 N (sb (t pl)) s3 := by
          rw [rx1]
          unfold isD at d
          by_cases w : t pl < 48 ∨ 128 ≤ t pl
          · rw [if_pos w]
          · rw [if_neg w, if_pos (by omega)]
        rw [if_neg d] at rm
        obtain ⟨x, hx⟩ : ∃ x, x = if pl + 1 < L then t (pl + 1) else 0 := ⟨_, rfl⟩
        obtain ⟨sx', q1, q2, q3, q4, q5⟩ := tx_sign (N := N) X3 q c0 x3 hx
        obtain ⟨sm', r1, r2, r3, r4, r5⟩ := tm_sign (N := N) hL hb M6 q c0 m4 hx
        have kx' : kz 49 FX sx sx' := kz_tr kx3 (kz_mono q5 (by decide))
        have km' : kz 174 FM sm sm' := kz_tr km6 (kz_mono r5 (by decide))
        have len : 1 ≤ sgl (t pl) x ∧ pl + sgl (t pl) x ≤ L := by
          have hh : pl + 1 < L ∨ x = 0 := by
            by_cases w : pl + 1 < L
            · exact Or.inl w
            · rw [if_neg w] at hx
              exact Or.inr hx
          unfold sgl
          split
          · omega
          · split
            · omega
            · split <;> omega
        have y6 : hq_gi sx' 49 6 = Int32.ofNat pl := (kz_no q5 (by decide)).trans x6
        have z5 : hq_gi sm' 174 25 = Int32.ofNat pl := (kz_no r5 (by decide)).trans m5
        by_cases w : sgm (t pl) = true
        · rw [if_pos w] at q2 r2
          refine ⟨_, pl, 5, sgv (t pl) x, sgv (t pl) x, sx', sm', by rw [rx2, q1], by rw [rm, r1], ⟨tkX_k X kx', tkM_k M km', ⟨by omega, len.2, fun _ => by omega⟩, ⟨q3, r3⟩, ⟨y6, z5⟩, ⟨q2, r2⟩, ⟨by omega, fun h => by omega, fun h => by omega, fun h => by omega, fun _ => ⟨rfl, ?_⟩⟩, fun _ => ⟨q4 w, r4⟩⟩, a1, kx', km'⟩
          unfold sgv
          split
          · exact Or.inr (Or.inl rfl)
          · split
            · exact Or.inr (Or.inr (Or.inl rfl))
            · split
              · exact Or.inr (Or.inr (Or.inr rfl))
              · exact Or.inl w
        · rw [if_neg w] at q2 r2
          exact ⟨_, pl, 1, 0, 0, sx', sm', by rw [rx2, q1], by rw [rm, r1], ⟨tkX_k X kx', tkM_k M km', ⟨by omega, len.2, fun _ => by omega⟩, ⟨q3, r3⟩, ⟨y6, z5⟩, ⟨q2, r2⟩, ⟨by omega, fun h => by omega, fun h => by omega, fun h => by omega, fun h => by omega⟩, fun h => by omega⟩, a1, kx', km'⟩
  · rw [if_neg q] at rx rm
    have kx' : kz 49 FX sx (hq_si s3 49 4 0) := kz_tr kx3 (kz_si (by decide))
    have km' : kz 174 FM sm (hq_si s6 174 26 4) := kz_tr km6 (kz_si (by decide))
    refine ⟨pl, pl, 0, 0, 0, hq_si s3 49 4 0, hq_si s6 174 26 4, by rw [rx, nn_pi]; rfl, rm, ⟨tkX_k X kx', tkM_k M km', ⟨by omega, a2, fun h => absurd rfl h⟩, ⟨(nn_gn (by omega)).trans x3, (nn_gn (by omega)).trans m4⟩, ⟨(nn_gn (by omega)).trans x6, (nn_gn (by omega)).trans m5⟩, ⟨nn_g1, nn_g1⟩, ⟨by omega, fun h => by omega, fun h => by omega, fun h => by omega, fun h => by omega⟩, fun h => by omega⟩, a1, kx', km'⟩
end
