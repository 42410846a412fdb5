/-! THE READER: numbers, signs, the next token -/
def nr (a b : Nat) : Prop := ((a = b ∧ a ≤ 99999) ∨ (99999 < a ∧ 99999 < b)) ∧ a ≤ 10000009 ∧ b ≤ 999999
abbrev isD (n : Nat) : Prop := 48 ≤ n ∧ n ≤ 57
def sgm (n : Nat) : Bool := Nat.beq n 59 || Nat.beq n 40 || Nat.beq n 41 || Nat.beq n 43 || Nat.beq n 45 || Nat.beq n 42 || Nat.beq n 47 || Nat.beq n 60 || Nat.beq n 61 || Nat.beq n 62
theorem ite_some {α : Type} {c : Prop} [Decidable c] {X : Option (α × hq_S)} {x y : α} {s : hq_S} (h : X = some (y, s)) : (if c then some (x, s) else X) = some (if c then x else y, s) := by
  split
  · rfl
  · exact h
def sgi (a0 : Int32) : Int32 := if a0 = (40 : Int32) then 1 else if a0 = (41 : Int32) then 1 else if a0 = (42 : Int32) then 1 else if a0 = (43 : Int32) then 1 else if a0 = (44 : Int32) then 0 else if a0 = (45 : Int32) then 1 else if a0 = (46 : Int32) then 0 else if a0 = (47 : Int32) then 1 else if a0 = (48 : Int32) then 0 else if a0 = (49 : Int32) then 0 else if a0 = (50 : Int32) then 0 else if a0 = (51 : Int32) then 0 else if a0 = (52 : Int32) then 0 else if a0 = (53 : Int32) then 0 else if a0 = (54 : Int32) then 0 else if a0 = (55 : Int32) then 0 else if a0 = (56 : Int32) then 0 else if a0 = (57 : Int32) then 0 else if a0 = (58 : Int32) then 0 else if a0 = (59 : Int32) then 1 else if a0 = (60 : Int32) then 1 else if a0 = (61 : Int32) then 1 else if a0 = (62 : Int32) then 1 else 0
theorem isSign_v {N : Nat} {a : Int32} {s : hq_S} : f_X9_isSign N a s = some (sgi a, s) := by
  unfold f_X9_isSign sgi
  iterate 23 refine ite_some ?_
  rfl
theorem sgi_v : ∀ n, n < 256 → sgi (sb n) = if sgm n = true then 1 else 0 := by decide +kernel
theorem sgr_v : ∀ n, n < 256 → (if Int32.ofNat n = (59 : Int32) then some (3 : Int32) else if Int32.ofNat n = (40 : Int32) then some (3 : Int32) else if Int32.ofNat n = (41 : Int32) then some (3 : Int32) else if Int32.ofNat n = (43 : Int32) then some (3 : Int32) else if Int32.ofNat n = (45 : Int32) then some (3 : Int32) else if Int32.ofNat n = (42 : Int32) then some (3 : Int32) else if Int32.ofNat n = (47 : Int32) then some (3 : Int32) else if Int32.ofNat n = (60 : Int32) then some (3 : Int32) else if Int32.ofNat n = (61 : Int32) then some (3 : Int32) else if Int32.ofNat n = (62 : Int32) then some (3 : Int32) else some (5 : Int32)) = some (if sgm n = true then 3 else 5) := by decide +kernel
/-- a sign's number, and how many bytes it has, by the byte behind it -/
def sgv (c x : Nat) : Nat := if c = 60 ∧ x = 61 then 256 else if c = 60 ∧ x = 62 then 257 else if c = 62 ∧ x = 61 then 258 else c
def sgl (c x : Nat) : Nat := if c = 60 ∧ x = 61 then 2 else if c = 60 ∧ x = 62 then 2 else if c = 62 ∧ x = 61 then 2 else 1
section
variable {N L : Nat} {t : Nat → Nat}
theorem tk_num (hL : L ≤ 700) {a1 : Int32} : ∀ (r p m m' a b : Nat) (sx sm : hq_S), tkX t L sx → tkM t L sm → p + r = L → hq_gi sx 49 3 = Int32.ofNat p → hq_gi sm 174 24 = Int32.ofNat p → hq_gi sx 49 5 = Int32.ofNat a → hq_gi sm 174 27 = Int32.ofNat b → nr a b → r < m → r < m' → ∃ e a' b' sx' sm', p ≤ e ∧ e ≤ L ∧ (p < L → isD (t p) → p < e) ∧ f_X9_takeNumber_L5 N m sx = some sx' ∧ f_X12_token_L162 N m' a1 sm = some sm' ∧ hq_gi sx' 49 3 = Int32.ofNat e ∧ hq_gi sm' 174 24 = Int32.ofNat e ∧ hq_gi sx' 49 5 = Int32.ofNat a' ∧ hq_gi sm' 174 27 = Int32.ofNat b' ∧ nr a' b' ∧ kz 49 [3, 5] sx sx' ∧ kz 174 [24, 27] sm sm' := by
  intro r
  induction r with
  | zero =>
    intro p m m' a b sx sm X M hp ex em ax bm hn h1 h2
    obtain ⟨m, rfl⟩ : ∃ k, m = k + 1 := ⟨m - 1, by omega⟩
    obtain ⟨m', rfl⟩ : ∃ k, m' = k + 1 := ⟨m' - 1, by omega⟩
    refine ⟨p, a, b, sx, sm, Nat.le_refl _, by omega, fun h => by omega, ?_, ?_, ex, em, ax, bm, hn, kz_rf _ _ _, kz_rf _ _ _⟩
    · rw [f_X9_takeNumber_L5_s]
      unfold f_X9_takeNumber_L5_B
      rw [ex, ie (tkX_at X (by omega)), if_neg (show ¬ p < L by omega)]
    · rw [f_X12_token_L162_s]
      unfold f_X12_token_L162_B
      rw [tkM_here hL M (by omega) em, if_neg (show ¬ p < L by omega)]
      simp only [Option.bind_some]
      rw [isDigit_e]
      simp only [Option.bind_some]
      rw [if_pos trivial]
  | succ r ih =>
    intro p m m' a b sx sm X M hp ex em ax bm hn h1 h2
    obtain ⟨m, rfl⟩ : ∃ k, m = k + 1 := ⟨m - 1, by omega⟩
    obtain ⟨m', rfl⟩ : ∃ k, m' = k + 1 := ⟨m' - 1, by omega⟩
    have c0 := (X.2.2.2.1 p (by omega)).1
    obtain ⟨n1, n2, n3⟩ := id hn
    by_cases c : isD (t p)
    · have hlo : sb (t p) = Int32.ofNat (t p) := sb_lo (by have := c.2; omega)
      obtain ⟨cl, cu⟩ := id c
      obtain ⟨a', ea⟩ : ∃ z, z = if 1000000 < a then 1000000 else 10 * a + t p - 48 := ⟨_, rfl⟩
      obtain ⟨b', eb⟩ : ∃ z, z = if 99999 < b then b else 10 * b + t p - 48 := ⟨_, rfl⟩
      have hn' : nr a' b' := by
        unfold nr
        rw [ea, eb]
        split <;> split <;> omega
      have sX : f_X9_takeNumber_L5 N (m + 1) sx = f_X9_takeNumber_L5 N m (hq_si (hq_si sx 49 5 (Int32.ofNat a')) 49 3 (Int32.ofNat (p + 1))) := by
        rw [f_X9_takeNumber_L5_s]
        unfold f_X9_takeNumber_L5_B
        rw [ex, ie (tkX_at X (by omega)), if_pos (show p < L by omega), tkX_ld X (by omega)]
        simp only [Option.bind_some]
        rw [ie (sb_48 _ c0), if_neg (by omega), ie (sb_57 _ c0), if_neg (by omega), ax, hlo, show (1000000 : Int32) = Int32.ofNat 1000000 from rfl, ie (nb_ltp (by omega) (by omega)), nb_10m, nb_add, show (48 : Int32) = Int32.ofNat 48 from rfl, nb_sub (by omega)]
        have z : (if 1000000 < a then some (Int32.ofNat 1000000) else some (Int32.ofNat (10 * a + t p - 48))) = some (Int32.ofNat a') := by
          rw [ea]
          split <;> rfl
        rw [z]
        simp only [Option.bind_some]
        rw [nn_pi]
        simp only [Option.bind_some]
        rw [nn_gn (by omega), ex, nn_succ]
        rfl
      have sM : f_X12_token_L162 N (m' + 1) a1 sm = f_X12_token_L162 N m' a1 (hq_si (hq_si sm 174 27 (Int32.ofNat b')) 174 24 (Int32.ofNat (p + 1))) := by
        rw [f_X12_token_L162_s]
        unfold f_X12_token_L162_B
        rw [tkM_here hL M (by omega) em, if_pos (show p < L by omega)]
        simp only [Option.bind_some]
        rw [isDigit_v c0]
        simp only [Option.bind_some]
        rw [if_pos (show 48 ≤ t p ∧ t p ≤ 57 from c), if_neg (by decide), bm, show (99999 : Int32) = Int32.ofNat 99999 from rfl, ie (nb_ltp (by omega) (by omega)), tkM_here hL M (by omega) em, if_pos (show p < L by omega)]
        simp only [Option.bind_some]
        rw [nb_m10, nb_add, show (48 : Int32) = Int32.ofNat 48 from rfl, nb_sub (by omega)]
        have z : (if 99999 < b then some (Int32.ofNat b, sm) else some (Int32.ofNat (10 * b + t p - 48), sm)) = some (Int32.ofNat b', sm) := by
          rw [eb]
          split <;> rfl
        rw [z]
        simp only [Option.bind_some]
        rw [nn_pi]
        simp only [Option.bind_some]
        rw [nn_gn (by omega), em, nn_succ]
        rfl
      have kX : kz 49 [3, 5] sx (hq_si (hq_si sx 49 5 (Int32.ofNat a')) 49 3 (Int32.ofNat (p + 1))) := kz_tr (kz_si (by decide)) (kz_si (by decide))
      have kM : kz 174 [24, 27] sm (hq_si (hq_si sm 174 27 (Int32.ofNat b')) 174 24 (Int32.ofNat (p + 1))) := kz_tr (kz_si (by decide)) (kz_si (by decide))
      obtain ⟨e, a2, b2, sx', sm', q1, q2, q3, q4, q5, q6, q7, q8, q9, q10, q11, q12⟩ := ih (p + 1) m m' a' b' _ _ (tkX_k X (kz_mono kX (by decide))) (tkM_k M (kz_mono kM (by decide))) (by omega) nn_g1 nn_g1 ((nn_gn (by omega)).trans nn_g1) ((nn_gn (by omega)).trans nn_g1) hn' (by omega) (by omega)
      exact ⟨e, a2, b2, sx', sm', by omega, q2, fun _ _ => by omega, by rw [sX]; exact q4, by rw [sM]; exact q5, q6, q7, q8, q9, q10, kz_tr kX q11, kz_tr kM q12⟩
    · refine ⟨p, a, b, sx, sm, Nat.le_refl _, by omega, fun _ h => absurd h c, ?_, ?_, ex, em, ax, bm, hn, kz_rf _ _ _, kz_rf _ _ _⟩
      · rw [f_X9_takeNumber_L5_s]
        unfold f_X9_takeNumber_L5_B
        rw [ex, ie (tkX_at X (by omega)), if_pos (show p < L by omega), tkX_ld X (by omega)]
        simp only [Option.bind_some]
        rw [ie (sb_48 _ c0), ie (sb_57 _ c0)]
        unfold isD at c
        by_cases c1 : t p < 48 ∨ 128 ≤ t p
        · rw [if_pos c1]
        · rw [if_neg c1, if_pos (by omega)]
      · rw [f_X12_token_L162_s]
        unfold f_X12_token_L162_B
        rw [tkM_here hL M (by omega) em, if_pos (show p < L by omega)]
        simp only [Option.bind_some]
        rw [isDigit_v c0]
        simp only [Option.bind_some]
        rw [if_neg (show ¬ (48 ≤ t p ∧ t p ≤ 57) from c), if_pos rfl]
theorem tx_sign {c p x : Nat} {s : hq_S} (X : tkX t L s) (hp : p < L) (hc : c < 256) (e : hq_gi s 49 3 = Int32.ofNat p) (hx : x = if p + 1 < L then t (p + 1) else 0) : ∃ s', f_X9_advance_J147 N (sb c) s = some s' ∧ hq_gi s' 49 4 = (if sgm c = true then 5 else 1) ∧ hq_gi s' 49 3 = Int32.ofNat (p + sgl c x) ∧ (sgm c = true → hq_gi s' 49 5 = Int32.ofNat (sgv c x)) ∧ kz 49 [3, 4, 5] s s' := by
  have hL := X.1
  have hx256 : x < 256 := by
    rw [hx]
    split
    · next q => exact (X.2.2.2.1 _ q).1
    · omega
  obtain ⟨z, hz⟩ : ∃ z : Int32, z = if sgm c = true then 5 else 1 := ⟨_, rfl⟩
  have ez : (if (if sgm c = true then (1 : Int32) else 0) = 0 then some (1 : Int32) else some (5 : Int32)) = some z := by
    rw [hz]
    cases sgm c
    · rfl
    · rfl
  have k0 : kz 49 [3, 4, 5] s (hq_si s 49 4 z) := kz_si (by decide)
  have e0 : hq_gi (hq_si s 49 4 z) 49 3 = Int32.ofNat p := (nn_gn (by omega)).trans e
  obtain ⟨s2, hs2⟩ : ∃ w, w = hq_si (hq_si (hq_si s 49 4 z) 49 3 (Int32.ofNat (p + 1))) 49 5 (sb c) := ⟨_, rfl⟩
  have k2 : kz 49 [3, 4, 5] s s2 := by rw [hs2]; exact kz_tr (kz_tr k0 (kz_si (by decide))) (kz_si (by decide))
  have X2 := tkX_k X (kz_mono k2 (by decide : ∀ i ∈ [3, 4, 5], i ∈ FX))
  have g3 : hq_gi s2 49 3 = Int32.ofNat (p + 1) := by rw [hs2, nn_gn (by omega), nn_g1]
  have g4 : hq_gi s2 49 4 = z := by rw [hs2, nn_gn (by omega), nn_gn (by omega), nn_g1]
  have g5 : hq_gi s2 49 5 = sb c := by rw [hs2, nn_g1]
  have z3 : (if hq_gi s2 49 3 < hq_gi s2 49 2 then (hq_ldbA s2 (hq_gr s2 49 1) (hq_gi s2 49 3)).bind fun x5 => some x5 else some (0 : Int32)) = some (sb x) := by
    rw [g3, ie (tkX_at X2 (by omega))]
    by_cases q : p + 1 < L
    · rw [if_pos q, tkX_ld X2 q, hx, if_pos q]
      rfl
    · rw [if_neg q, hx, if_neg q]
      rfl
  have run : f_X9_advance_J147 N (sb c) s = (f_X9_takeSign N (sb c) (hq_si s 49 4 z)).bind fun s14 => some s14 := by
    unfold f_X9_advance_J147
    rw [isSign_v]
    simp only [Option.bind_some]
    rw [sgi_v c hc, ez]
    simp only [Option.bind_some]
    rw [nn_pi]
    rfl
  have two : ∀ v : Nat, kz 49 [3, 4, 5] s (hq_si (hq_si s2 49 5 (Int32.ofNat v)) 49 3 (Int32.ofNat (p + 2))) ∧ hq_gi (hq_si (hq_si s2 49 5 (Int32.ofNat v)) 49 3 (Int32.ofNat (p + 2))) 49 4 = z ∧ hq_gi (hq_si (hq_si s2 49 5 (Int32.ofNat v)) 49 3 (Int32.ofNat (p + 2))) 49 5 = Int32.ofNat v := fun v => ⟨kz_tr k2 (kz_tr (kz_si (by decide)) (kz_si (by decide))), by rw [nn_gn (by omega), nn_gn (by omega), g4], by rw [nn_gn (by omega), nn_g1]⟩
  have tk : f_X9_takeSign N (sb c) (hq_si s 49 4 z) = if c = 60 ∧ x = 61 then some (hq_si (hq_si s2 49 5 (Int32.ofNat 256)) 49 3 (Int32.ofNat (p + 2))) else if c = 60 ∧ x = 62 then some (hq_si (hq_si s2 49 5 (Int32.ofNat 257)) 49 3 (Int32.ofNat (p + 2))) else if c = 62 ∧ x = 61 then some (hq_si (hq_si s2 49 5 (Int32.ofNat 258)) 49 3 (Int32.ofNat (p + 2))) else some s2 := by
    unfold f_X9_takeSign f_X9_takeSign_J72 f_X9_takeSign_J104
    rw [nn_pi, e0, nn_succ]
    simp only [Option.bind_some]
    rw [nn_pi]
    simp only [Option.bind_some]
    rw [← hs2, z3]
    simp only [Option.bind_some]
    have a60 : (sb c = 60) = (c = 60) := sb_eq (c := 60) hc (by omega)
    have a62 : (sb c = 62) = (c = 62) := sb_eq (c := 62) hc (by omega)
    have x61 : (sb x = 61) = (x = 61) := sb_eq (c := 61) hx256 (by omega)
    have x62 : (sb x = 62) = (x = 62) := sb_eq (c := 62) hx256 (by omega)
    simp only [a60, a62, x61, x62]
    have pp : ∀ v : Int32, ((hq_pi s2 49 5 0 v).bind fun s16 => (hq_pi s16 49 3 0 ((hq_gi s16 49 3) + (1 : Int32))).bind fun s17 => some s17) = some (hq_si (hq_si s2 49 5 v) 49 3 (Int32.ofNat (p + 2))) := fun v => by
      rw [nn_pi]
      simp only [Option.bind_some]
      rw [nn_pi, nn_gn (by omega), g3, nn_succ]
      rfl
    rw [pp, pp, pp]
    by_cases c1 : c = 60
    · by_cases c2 : x = 61
      · rw [if_pos c1, if_pos c2, if_pos ⟨c1, c2⟩]
        rfl
      · by_cases c3 : x = 62
        · rw [if_pos c1, if_neg c2, if_pos c1, if_pos c3, if_neg (by omega), if_pos ⟨c1, c3⟩]
          rfl
        · rw [if_pos c1, if_neg c2, if_pos c1, if_neg c3, if_neg (show ¬ c = 62 by omega), if_neg (by omega), if_neg (by omega), if_neg (by omega)]
    · rw [if_neg c1, if_neg c1, if_neg (show ¬ (c = 60 ∧ x = 61) by omega), if_neg (show ¬ (c = 60 ∧ x = 62) by omega)]
      by_cases c2 : c = 62
      · by_cases c3 : x = 61
        · rw [if_pos c2, if_pos c3, if_pos ⟨c2, c3⟩]
          rfl
        · rw [if_pos c2, if_neg c3, if_neg (by omega)]
      · rw [if_neg c2, if_neg (by omega)]
  rw [run, tk]
  unfold sgl sgv
  by_cases c1 : c = 60 ∧ x = 61
  · rw [if_pos c1, if_pos c1, if_pos c1]
    exact ⟨_, rfl, (two 256).2.1.trans hz, nn_g1, fun _ => (two 256).2.2, (two 256).1⟩
  · rw [if_neg c1, if_neg c1, if_neg c1]
    by_cases c2 : c = 60 ∧ x = 62
    · rw [if_pos c2, if_pos c2, if_pos c2]
      exact ⟨_, rfl, (two 257).2.1.trans hz, nn_g1, fun _ => (two 257).2.2, (two 257).1⟩
    · rw [if_neg c2, if_neg c2, if_neg c2]
      by_cases c3 : c = 62 ∧ x = 61
      · rw [if_pos c3, if_pos c3, if_pos c3]
        exact ⟨_, rfl, (two 258).2.1.trans hz, nn_g1, fun _ => (two 258).2.2, (two 258).1⟩
      · rw [if_neg c3, if_neg c3, if_neg c3]
        refine ⟨s2, rfl, g4.trans hz, g3, fun hs => ?_, k2⟩
        rw [g5, sb_lo]
        have : ∀ n, n < 256 → sgm n = true → n < 128 := by decide +kernel
        exact this c hc hs
theorem tm_sign (hL : L ≤ 700) {c p x : Nat} {s : hq_S} (hb : ∀ i, i < L → t i < 256) (M : tkM t L s) (hp : p < L) (hc : c < 256) (e : hq_gi s 174 24 = Int32.ofNat p) (hx : x = if p + 1 < L then t (p + 1) else 0) : ∃ s', f_X12_sign N (Int32.ofNat c) s = some s' ∧ hq_gi s' 174 26 = (if sgm c = true then 3 else 5) ∧ hq_gi s' 174 24 = Int32.ofNat (p + sgl c x) ∧ hq_gi s' 174 27 = Int32.ofNat (sgv c x) ∧ kz 174 [24, 26, 27] s s' := by
  obtain ⟨z, hz⟩ : ∃ z : Int32, z = if sgm c = true then 3 else 5 := ⟨_, rfl⟩
  obtain ⟨s2, hs2⟩ : ∃ w, w = hq_si (hq_si (hq_si s 174 24 (Int32.ofNat (p + 1))) 174 26 z) 174 27 (Int32.ofNat c) := ⟨_, rfl⟩
  have k2 : kz 174 [24, 26, 27] s s2 := by rw [hs2]; exact kz_tr (kz_tr (kz_si (by decide)) (kz_si (by decide))) (kz_si (by decide))
  have M2 : tkM t L s2 := tkM_k M (kz_mono k2 (by decide))
  have g4 : hq_gi s2 174 24 = Int32.ofNat (p + 1) := by rw [hs2, nn_gn (by omega), nn_gn (by omega), nn_g1]
  have g6 : hq_gi s2 174 26 = z := by rw [hs2, nn_gn (by omega), nn_g1]
  have g7 : hq_gi s2 174 27 = Int32.ofNat c := by rw [hs2, nn_g1]
  obtain ⟨y, hy⟩ : ∃ y : Int32, y = if p + 1 < L then Int32.ofNat (t (p + 1)) else -1 := ⟨_, rfl⟩
  have hh : ∀ w : hq_S, tkM t L w → hq_gi w 174 24 = Int32.ofNat (p + 1) → f_X12_here N w = some (y, w) := fun w h1 h2 => by
    rw [tkM_here hL h1 (by omega) h2, hy]
  have yq : ∀ d : Nat, 0 < d → d < 256 → ((y = Int32.ofNat d) = (x = d)) := fun d h1 h2 => by
    rw [hy, hx]
    by_cases q : p + 1 < L
    · have := hb (p + 1) q
      rw [if_pos q, if_pos q, nb_eq (by omega) (by omega)]
    · rw [if_neg q, if_neg q]
      refine propext ⟨fun h => ?_, fun h => by omega⟩
      exact absurd (congrArg Int32.toInt h) (by rw [nn_toInt (by omega)]; show ¬ (-1 : Int) = _; omega)
  have kv : ∀ v : Nat, kz 174 [24, 26, 27] s (hq_si s2 174 27 (Int32.ofNat v)) := fun v => kz_tr k2 (kz_si (by decide))
  have Mv : ∀ v : Nat, tkM t L (hq_si s2 174 27 (Int32.ofNat v)) := fun v => tkM_k M (kz_mono (kv v) (by decide))
  have gv : ∀ v : Nat, hq_gi (hq_si s2 174 27 (Int32.ofNat v)) 174 24 = Int32.ofNat (p + 1) := fun v => (nn_gn (by omega)).trans g4
  have fin : ∀ v : Nat, 256 ≤ v → v < 1000 → (if hq_gi (hq_si s2 174 27 (Int32.ofNat v)) 174 27 < (256 : Int32) then some (hq_si s2 174 27 (Int32.ofNat v)) else (hq_pi (hq_si s2 174 27 (Int32.ofNat v)) 174 24 0 ((hq_gi (hq_si s2 174 27 (Int32.ofNat v)) 174 24) + (1 : Int32))).bind fun s31 => some s31) = some (hq_si (hq_si s2 174 27 (Int32.ofNat v)) 174 24 (Int32.ofNat (p + 2))) := fun v h1 h2 => by
    rw [nn_g1, show (256 : Int32) = Int32.ofNat 256 from rfl, ie (nb_ltp (by omega) (by omega)), if_neg (by omega), nn_pi, gv, nn_succ]
    rfl
  have fin1 : (if hq_gi s2 174 27 < (256 : Int32) then some s2 else (hq_pi s2 174 24 0 ((hq_gi s2 174 24) + (1 : Int32))).bind fun s31 => some s31) = some s2 := by
    rw [g7, show (256 : Int32) = Int32.ofNat 256 from rfl, ie (nb_ltp (by omega) (by omega)), if_pos hc]
  have two : ∀ v : Nat, kz 174 [24, 26, 27] s (hq_si (hq_si s2 174 27 (Int32.ofNat v)) 174 24 (Int32.ofNat (p + 2))) ∧ hq_gi (hq_si (hq_si s2 174 27 (Int32.ofNat v)) 174 24 (Int32.ofNat (p + 2))) 174 26 = z ∧ hq_gi (hq_si (hq_si s2 174 27 (Int32.ofNat v)) 174 24 (Int32.ofNat (p + 2))) 174 27 = Int32.ofNat v := fun v => ⟨kz_tr (kv v) (kz_si (by decide)), by rw [nn_gn (by omega), nn_gn (by omega), g6], by rw [nn_gn (by omega), nn_g1]⟩
  have y61 : (y = 61) = (x = 61) := yq 61 (by omega) (by omega)
  have y62 : (y = 62) = (x = 62) := yq 62 (by omega) (by omega)
  have c60 : (Int32.ofNat c = 60) = (c = 60) := nb_eq (b := 60) (by omega) (by omega)
  have c62 : (Int32.ofNat c = 62) = (c = 62) := nb_eq (b := 62) (by omega) (by omega)
  have head : f_X12_sign N (Int32.ofNat c) s = (if c = 60 then if x = 61 then some (hq_si s2 174 27 (Int32.ofNat 256)) else some s2 else some s2).bind fun z15 => (if c = 60 then (f_X12_here N z15).bind fun y22 => if y22.1 = (62 : Int32) then (hq_pi y22.2 174 27 0 (257 : Int32)).bind fun s24 => some s24 else some y22.2 else some z15).bind fun z20 => (if c = 62 then (f_X12_here N z20).bind fun y27 => if y27.1 = (61 : Int32) then (hq_pi y27.2 174 27 0 (258 : Int32)).bind fun s29 => some s29 else some y27.2 else some z20).bind fun z25 => if (hq_gi z25 174 27) < (256 : Int32) then some z25 else (hq_pi z25 174 24 0 ((hq_gi z25 174 24) + (1 : Int32))).bind fun s31 => some s31 := by
    unfold f_X12_sign
    rw [nn_pi, e, nn_succ]
    simp only [Option.bind_some]
    rw [sgr_v c hc]
    simp only [Option.bind_some]
    rw [← hz, nn_pi]
    simp only [Option.bind_some]
    rw [nn_pi]
    simp only [Option.bind_some]
    rw [← hs2, hh s2 M2 g4]
    simp only [Option.bind_some, c60, c62, y61]
    rfl
  rw [head]
  unfold sgl sgv
  by_cases c1 : c = 60 ∧ x = 61
  · rw [if_pos c1, if_pos c1, if_pos c1.1, if_pos c1.2]
    simp only [Option.bind_some]
    rw [if_pos c1.1, hh _ (Mv 256) (gv 256)]
    simp only [Option.bind_some]
    rw [ie y62, if_neg (show ¬ x = 62 by omega)]
    simp only [Option.bind_some]
    rw [if_neg (show ¬ c = 62 by omega)]
    simp only [Option.bind_some]
    rw [fin 256 (by omega) (by omega)]
    exact ⟨_, rfl, (two 256).2.1.trans hz, nn_g1, (two 256).2.2, (two 256).1⟩
  · rw [if_neg c1, if_neg c1]
    by_cases c2 : c = 60 ∧ x = 62
    · rw [if_pos c2, if_pos c2, if_pos c2.1, if_neg (show ¬ x = 61 by omega)]
      simp only [Option.bind_some]
      rw [if_pos c2.1, hh _ M2 g4]
      simp only [Option.bind_some]
      rw [ie y62, if_pos c2.2, nn_pi]
      simp only [Option.bind_some]
      rw [if_neg (show ¬ c = 62 by omega)]
      simp only [Option.bind_some]
      rw [show (257 : Int32) = Int32.ofNat 257 from rfl, fin 257 (by omega) (by omega)]
      exact ⟨_, rfl, (two 257).2.1.trans hz, nn_g1, (two 257).2.2, (two 257).1⟩
    · rw [if_neg c2, if_neg c2]
      have f1 : (if c = 60 then if x = 61 then some (hq_si s2 174 27 (Int32.ofNat 256)) else some s2 else some s2) = some s2 := by
        by_cases q : c = 60
        · rw [if_pos q, if_neg fun h => c1 ⟨q, h⟩]
        · rw [if_neg q]
      have f2 : (if c = 60 then (f_X12_here N s2).bind fun y22 => if y22.1 = (62 : Int32) then (hq_pi y22.2 174 27 0 (257 : Int32)).bind fun s24 => some s24 else some y22.2 else some s2) = some s2 := by
        by_cases q : c = 60
        · rw [if_pos q, hh _ M2 g4]
          simp only [Option.bind_some]
          rw [ie (y62), if_neg fun h => c2 ⟨q, h⟩]
        · rw [if_neg q]
      rw [f1]
      simp only [Option.bind_some]
      rw [f2]
      simp only [Option.bind_some]
      by_cases c3 : c = 62 ∧ x = 61
      · rw [if_pos c3, if_pos c3, if_pos c3.1, hh _ M2 g4]
        simp only [Option.bind_some]
        rw [ie (y61), if_pos c3.2, nn_pi]
        simp only [Option.bind_some]
        rw [show (258 : Int32) = Int32.ofNat 258 from rfl, fin 258 (by omega) (by omega)]
        exact ⟨_, rfl, (two 258).2.1.trans hz, nn_g1, (two 258).2.2, (two 258).1⟩
      · rw [if_neg c3, if_neg c3]
        have f3 : (if c = 62 then (f_X12_here N s2).bind fun y27 => if y27.1 = (61 : Int32) then (hq_pi y27.2 174 27 0 (258 : Int32)).bind fun s29 => some s29 else some y27.2 else some s2) = some s2 := by
          by_cases q : c = 62
          · rw [if_pos q, hh _ M2 g4]
            simp only [Option.bind_some]
            rw [ie (y61), if_neg fun h => c3 ⟨q, h⟩]
          · rw [if_neg q]
        rw [f3]
        simp only [Option.bind_some]
        rw [fin1]
        exact ⟨s2, rfl, g6.trans hz, g4, g7, k2⟩
end
