/-! THE READER: words -/
def pw (f : Nat → Nat) : Nat := f 0 * 33554432 + f 1 * 1048576 + f 2 * 32768 + f 3 * 1024 + f 4 * 32 + f 5
def cut (d : Nat → Nat) (j i : Nat) : Nat := if i < j then d i else 0
def wl : List (List Nat) := [[99, 111, 114, 110, 101, 114], [108, 97, 110, 101], [115, 116, 101, 112, 115], [103, 117, 97, 114, 100], [98, 101, 97, 116], [116, 104, 105, 101, 102], [103, 114, 105, 112], [115, 101, 101, 100], [108, 97, 119], [100, 114, 101, 97, 100], [116, 97, 107, 101], [115, 116, 105, 114], [111, 114], [97, 110, 100], [110, 111, 116], [108, 105, 103, 104, 116], [102, 97, 114], [108, 111, 111, 116], [98, 111, 108, 100], [104, 97, 100], [103, 117, 97, 114, 100, 115], [104, 111, 117, 114]]
def wo : List Nat := [0, 7, 12, 18, 24, 29, 35, 40, 45, 49, 55, 60, 65, 68, 72, 76, 82, 86, 91, 96, 100, 107, 112]
def wk (k i : Nat) : Nat := (wl.getD k []).getD i 0
def wn (k : Nat) : Nat := (wl.getD k []).length
def wf (k : Nat) : Nat := wo.getD k 0
/-- the reference's number of the class's word -/
def tk_c (j : Nat) : Nat := if j < 12 then j else if j < 19 then j + 3 else if j = 19 then 13 else if j = 20 then 12 else 14
theorem wl_ok : ∀ k, k < 22 → (wf (k + 1) = wf k + wn k + 1 ∧ hq_chr (Int32.ofNat (wf k + wn k)) = some 32 ∧ wn k ≤ 6 ∧ 1 ≤ wn k ∧ wf k < 112) ∧ ∀ i, i < wn k → hq_chr (Int32.ofNat (wf k + i)) = some (Int32.ofNat (wk k i)) ∧ 97 ≤ wk k i ∧ wk k i ≤ 122 := by decide +kernel
def kk (j : Nat) : Nat := pw (cut (fun i => wk (tk_c j) i - 96) (wn (tk_c j)))
theorem kk_ok : ∀ j, j < 22 → hq_gi hq_s0 50 j = Int32.ofNat (kk j) ∧ tk_c j < 22 := by decide +kernel
theorem kk_lt : ∀ j, j < 22 → kk j < 1073741824 := by decide +kernel
theorem pw_congr {d e : Nat → Nat} (h : ∀ i, i < 6 → d i = e i) : pw d = pw e := by
  unfold pw
  rw [h 0 (by omega), h 1 (by omega), h 2 (by omega), h 3 (by omega), h 4 (by omega), h 5 (by omega)]
theorem pw_inj {d e : Nat → Nat} (hd : ∀ i, d i < 32) (he : ∀ i, e i < 32) (h : pw d = pw e) : ∀ i, i < 6 → d i = e i := by
  unfold pw at h
  have a0 := hd 0
  have a1 := hd 1
  have a2 := hd 2
  have a3 := hd 3
  have a4 := hd 4
  have a5 := hd 5
  have b0 := he 0
  have b1 := he 1
  have b2 := he 2
  have b3 := he 3
  have b4 := he 4
  have b5 := he 5
  intro i hi
  match i, hi with
  | 0, _ => omega
  | 1, _ => omega
  | 2, _ => omega
  | 3, _ => omega
  | 4, _ => omega
  | 5, _ => omega
  | i + 6, hi => omega
theorem pw_lt {d : Nat → Nat} (hd : ∀ i, d i < 32) : pw d < 1073741824 := by
  unfold pw
  have a0 := hd 0
  have a1 := hd 1
  have a2 := hd 2
  have a3 := hd 3
  have a4 := hd 4
  have a5 := hd 5
  omega
theorem cut_lt {d : Nat → Nat} (hd : ∀ i, d i < 32) (j i : Nat) : cut d j i < 32 := by
  unfold cut
  split
  · exact hd i
  · omega
theorem or_w (i W q b : Nat) (hW : W = 2 ^ i) (hb : b < W) : q * W ||| b = q * W + b := by
  subst hW
  rw [Nat.mul_comm]
  exact (Nat.two_pow_add_eq_or_of_lt hb q).symm
/-- what a letter weighs -/
def lw8 (j : Nat) : Nat := match j with
  | 0 => 33554432
  | 1 => 1048576
  | 2 => 32768
  | 3 => 1024
  | 4 => 32
  | _ => 1
theorem lw8_pow : ∀ j, j < 6 → 2 ^ (5 * (5 - j)) = lw8 j ∧ lw8 j ≤ 33554432 := by decide +kernel
def pwn (d0 d1 d2 d3 d4 d5 w0 w1 w2 w3 w4 : Nat) : Nat := d0 * w0 + d1 * w1 + d2 * w2 + d3 * w3 + d4 * w4 + d5
theorem pw_n (f : Nat → Nat) : pw f = pwn (f 0) (f 1) (f 2) (f 3) (f 4) (f 5) 33554432 1048576 32768 1024 32 := rfl
section
variable {d : Nat → Nat}
theorem cut_0 (i : Nat) : cut d 0 i = 0 := if_neg (by omega)
theorem cut_y {j i : Nat} (h : i < j) : cut d j i = d i := if_pos h
theorem cut_n {j i : Nat} (h : ¬ i < j) : cut d j i = 0 := if_neg h
theorem pwn_0 (w0 w1 w2 w3 w4 : Nat) : pwn 0 0 0 0 0 0 w0 w1 w2 w3 w4 = 0 := by
  simp [pwn]
theorem pwn_1 (a0 w0 w1 w2 w3 w4 : Nat) : pwn a0 0 0 0 0 0 w0 w1 w2 w3 w4 = a0 * w0 := by
  simp [pwn]
theorem pwn_2 (a0 a1 w0 w1 w2 w3 w4 : Nat) : pwn a0 a1 0 0 0 0 w0 w1 w2 w3 w4 = a0 * w0 + a1 * w1 := by
  simp [pwn]
theorem pwn_3 (a0 a1 a2 w0 w1 w2 w3 w4 : Nat) : pwn a0 a1 a2 0 0 0 w0 w1 w2 w3 w4 = a0 * w0 + a1 * w1 + a2 * w2 := by
  simp [pwn]
theorem pwn_4 (a0 a1 a2 a3 w0 w1 w2 w3 w4 : Nat) : pwn a0 a1 a2 a3 0 0 w0 w1 w2 w3 w4 = a0 * w0 + a1 * w1 + a2 * w2 + a3 * w3 := by
  simp [pwn]
theorem pwn_5 (a0 a1 a2 a3 a4 w0 w1 w2 w3 w4 : Nat) : pwn a0 a1 a2 a3 a4 0 w0 w1 w2 w3 w4 = a0 * w0 + a1 * w1 + a2 * w2 + a3 * w3 + a4 * w4 := by
  simp [pwn]
theorem pwn_6 (a0 a1 a2 a3 a4 a5 w0 w1 w2 w3 w4 : Nat) : pwn a0 a1 a2 a3 a4 a5 w0 w1 w2 w3 w4 = a0 * w0 + a1 * w1 + a2 * w2 + a3 * w3 + a4 * w4 + a5 := by
  simp [pwn]
theorem lw8_0 : lw8 0 = 33554432 := rfl
theorem lw8_1 : lw8 1 = 1048576 := rfl
theorem lw8_2 : lw8 2 = 32768 := rfl
theorem lw8_3 : lw8 3 = 1024 := rfl
theorem lw8_4 : lw8 4 = 32 := rfl
theorem lw8_5 : lw8 5 = 1 := rfl
theorem pw_c0 : pw (cut d 0) = pwn 0 0 0 0 0 0 33554432 1048576 32768 1024 32 := by
  rw [pw_n, cut_n (show ¬ 0 < 0 by omega), cut_n (show ¬ 1 < 0 by omega), cut_n (show ¬ 2 < 0 by omega), cut_n (show ¬ 3 < 0 by omega), cut_n (show ¬ 4 < 0 by omega), cut_n (show ¬ 5 < 0 by omega)]
theorem pw_c1 : pw (cut d 1) = pwn (d 0) 0 0 0 0 0 33554432 1048576 32768 1024 32 := by
  rw [pw_n, cut_y (show 0 < 1 by omega), cut_n (show ¬ 1 < 1 by omega), cut_n (show ¬ 2 < 1 by omega), cut_n (show ¬ 3 < 1 by omega), cut_n (show ¬ 4 < 1 by omega), cut_n (show ¬ 5 < 1 by omega)]
theorem pw_c2 : pw (cut d 2) = pwn (d 0) (d 1) 0 0 0 0 33554432 1048576 32768 1024 32 := by
  rw [pw_n, cut_y (show 0 < 2 by omega), cut_y (show 1 < 2 by omega), cut_n (show ¬ 2 < 2 by omega), cut_n (show ¬ 3 < 2 by omega), cut_n (show ¬ 4 < 2 by omega), cut_n (show ¬ 5 < 2 by omega)]
theorem pw_c3 : pw (cut d 3) = pwn (d 0) (d 1) (d 2) 0 0 0 33554432 1048576 32768 1024 32 := by
  rw [pw_n, cut_y (show 0 < 3 by omega), cut_y (show 1 < 3 by omega), cut_y (show 2 < 3 by omega), cut_n (show ¬ 3 < 3 by omega), cut_n (show ¬ 4 < 3 by omega), cut_n (show ¬ 5 < 3 by omega)]
theorem pw_c4 : pw (cut d 4) = pwn (d 0) (d 1) (d 2) (d 3) 0 0 33554432 1048576 32768 1024 32 := by
  rw [pw_n, cut_y (show 0 < 4 by omega), cut_y (show 1 < 4 by omega), cut_y (show 2 < 4 by omega), cut_y (show 3 < 4 by omega), cut_n (show ¬ 4 < 4 by omega), cut_n (show ¬ 5 < 4 by omega)]
theorem pw_c5 : pw (cut d 5) = pwn (d 0) (d 1) (d 2) (d 3) (d 4) 0 33554432 1048576 32768 1024 32 := by
  rw [pw_n, cut_y (show 0 < 5 by omega), cut_y (show 1 < 5 by omega), cut_y (show 2 < 5 by omega), cut_y (show 3 < 5 by omega), cut_y (show 4 < 5 by omega), cut_n (show ¬ 5 < 5 by omega)]
theorem pw_c6 : pw (cut d 6) = pwn (d 0) (d 1) (d 2) (d 3) (d 4) (d 5) 33554432 1048576 32768 1024 32 := by
  rw [pw_n, cut_y (show 0 < 6 by omega), cut_y (show 1 < 6 by omega), cut_y (show 2 < 6 by omega), cut_y (show 3 < 6 by omega), cut_y (show 4 < 6 by omega), cut_y (show 5 < 6 by omega)]
theorem orw2 (d0 d1 d2 w0 w1 w2 : Nat) (i : Nat) (h0 : w0 = 32 * w1) (h : w1 = 2 ^ i) (hb : d2 * w2 < w1) : d0 * w0 + d1 * w1 ||| d2 * w2 = d0 * w0 + d1 * w1 + d2 * w2 := by
  rw [show d0 * w0 + d1 * w1 = (d0 * 32 + d1) * w1 by rw [h0, Nat.add_mul, Nat.mul_assoc]]
  exact or_w i w1 _ _ h hb
theorem orw3 (d0 d1 d2 d3 w0 w1 w2 w3 : Nat) (i : Nat) (h0 : w0 = 1024 * w2) (h1 : w1 = 32 * w2) (h : w2 = 2 ^ i) (hb : d3 * w3 < w2) : d0 * w0 + d1 * w1 + d2 * w2 ||| d3 * w3 = d0 * w0 + d1 * w1 + d2 * w2 + d3 * w3 := by
  rw [show d0 * w0 + d1 * w1 + d2 * w2 = (d0 * 1024 + d1 * 32 + d2) * w2 by rw [h0, h1, Nat.add_mul, Nat.add_mul, Nat.mul_assoc, Nat.mul_assoc]]
  exact or_w i w2 _ _ h hb
theorem orw4 (d0 d1 d2 d3 d4 w0 w1 w2 w3 w4 : Nat) (i : Nat) (h0 : w0 = 32768 * w3) (h1 : w1 = 1024 * w3) (h2 : w2 = 32 * w3) (h : w3 = 2 ^ i) (hb : d4 * w4 < w3) : d0 * w0 + d1 * w1 + d2 * w2 + d3 * w3 ||| d4 * w4 = d0 * w0 + d1 * w1 + d2 * w2 + d3 * w3 + d4 * w4 := by
  rw [show d0 * w0 + d1 * w1 + d2 * w2 + d3 * w3 = (d0 * 32768 + d1 * 1024 + d2 * 32 + d3) * w3 by rw [h0, h1, h2, Nat.add_mul, Nat.add_mul, Nat.add_mul, Nat.mul_assoc, Nat.mul_assoc, Nat.mul_assoc]]
  exact or_w i w3 _ _ h hb
theorem orw5 (d0 d1 d2 d3 d4 d5 w0 w1 w2 w3 w4 c0 : Nat) (i : Nat) (h0 : w0 = c0 * w4) (h1 : w1 = 32768 * w4) (h2 : w2 = 1024 * w4) (h3 : w3 = 32 * w4) (h : w4 = 2 ^ i) (hb : d5 < w4) : d0 * w0 + d1 * w1 + d2 * w2 + d3 * w3 + d4 * w4 ||| d5 = d0 * w0 + d1 * w1 + d2 * w2 + d3 * w3 + d4 * w4 + d5 := by
  rw [show d0 * w0 + d1 * w1 + d2 * w2 + d3 * w3 + d4 * w4 = (d0 * c0 + d1 * 32768 + d2 * 1024 + d3 * 32 + d4) * w4 by rw [h0, h1, h2, h3, Nat.add_mul, Nat.add_mul, Nat.add_mul, Nat.add_mul, Nat.mul_assoc, Nat.mul_assoc, Nat.mul_assoc, Nat.mul_assoc]]
  exact or_w i w4 _ _ h hb
theorem pw_or0 : pw (cut d 0) ||| d 0 * lw8 0 = pw (cut d 1) := by
  rw [pw_c0, pw_c1, pwn_0, pwn_1, lw8_0, Nat.zero_or]
theorem pw_or1 (hd : ∀ i, d i < 32) : pw (cut d 1) ||| d 1 * lw8 1 = pw (cut d 2) := by
  rw [pw_c1, pw_c2, pwn_1, pwn_2, lw8_1]
  exact or_w 25 33554432 (d 0) (d 1 * 1048576) (by decide) (by have := hd 1; omega)
theorem pw_or2 (hd : ∀ i, d i < 32) : pw (cut d 2) ||| d 2 * lw8 2 = pw (cut d 3) := by
  rw [pw_c2, pw_c3, pwn_2, pwn_3, lw8_2]
  exact orw2 (d 0) (d 1) (d 2) 33554432 1048576 32768 20 (by decide) (by decide) (by have := hd 2; omega)
theorem pw_or3 (hd : ∀ i, d i < 32) : pw (cut d 3) ||| d 3 * lw8 3 = pw (cut d 4) := by
  rw [pw_c3, pw_c4, pwn_3, pwn_4, lw8_3]
  exact orw3 (d 0) (d 1) (d 2) (d 3) 33554432 1048576 32768 1024 15 (by decide) (by decide) (by decide) (by have := hd 3; omega)
theorem pw_or4 (hd : ∀ i, d i < 32) : pw (cut d 4) ||| d 4 * lw8 4 = pw (cut d 5) := by
  rw [pw_c4, pw_c5, pwn_4, pwn_5, lw8_4]
  exact orw4 (d 0) (d 1) (d 2) (d 3) (d 4) 33554432 1048576 32768 1024 32 10 (by decide) (by decide) (by decide) (by decide) (by have := hd 4; omega)
theorem pw_or5 (hd : ∀ i, d i < 32) : pw (cut d 5) ||| d 5 * lw8 5 = pw (cut d 6) := by
  rw [pw_c5, pw_c6, pwn_5, pwn_6, lw8_5, Nat.mul_one]
  exact orw5 (d 0) (d 1) (d 2) (d 3) (d 4) (d 5) 33554432 1048576 32768 1024 32 1048576 5 (by decide) (by decide) (by decide) (by decide) (by decide) (hd 5)
theorem pw_or (hd : ∀ i, d i < 32) (j : Nat) (hj : j < 6) : pw (cut d j) ||| d j * lw8 j = pw (cut d (j + 1)) := by
  match j, hj with
  | 0, _ => exact pw_or0
  | 1, _ => exact pw_or1 hd
  | 2, _ => exact pw_or2 hd
  | 3, _ => exact pw_or3 hd
  | 4, _ => exact pw_or4 hd
  | 5, _ => exact pw_or5 hd
  | j + 6, hj => omega
end
theorem pw_ge {d : Nat → Nat} {j : Nat} (h : 6 ≤ j) : pw (cut d (j + 1)) = pw (cut d j) := pw_congr fun i hi => by
  unfold cut
  rw [if_pos (by omega), if_pos (by omega)]
theorem behind_lt : ∀ j, j < 701 → 6 ≤ j → (5 : Int32) - Int32.ofNat j < 0 := by decide +kernel
section
variable {N L : Nat} {t : Nat → Nat}
/-- a letter's number -/
def dl (t : Nat → Nat) (pl i : Nat) : Nat := (t (pl + i) - 96) % 32
theorem dl_lt (pl i : Nat) : dl t pl i < 32 := Nat.mod_lt _ (by omega)
abbrev isL (n : Nat) : Prop := 97 ≤ n ∧ n ≤ 122
theorem tx_word {pl : Nat} : ∀ (r p m j : Nat) (s : hq_S), tkX t L s → p + r = L → hq_gi s 49 3 = Int32.ofNat p → hq_gi s 49 6 = Int32.ofNat pl → p = pl + j → hq_gi s 49 5 = Int32.ofNat (pw (cut (dl t pl) j)) → r < m → ∃ e s', p ≤ e ∧ e ≤ L ∧ (∀ i, p ≤ i → i < e → isL (t i)) ∧ (e < L → ¬ isL (t e)) ∧ f_X9_takeWord_L0 N m s = f_X9_takeWord_J99 N s' ∧ hq_gi s' 49 3 = Int32.ofNat e ∧ hq_gi s' 49 5 = Int32.ofNat (pw (cut (dl t pl) (e - pl))) ∧ kz 49 [3, 5] s s' := by
  intro r
  induction r with
  | zero =>
    intro p m j s X hp e e6 hj ev hm
    obtain ⟨m, rfl⟩ : ∃ k, m = k + 1 := ⟨m - 1, by omega⟩
    refine ⟨p, s, Nat.le_refl _, by omega, fun i h1 h2 => by omega, fun h => by omega, ?_, e, ?_, kz_rf _ _ _⟩
    · rw [f_X9_takeWord_L0_s]
      unfold f_X9_takeWord_L0_B
      rw [e, ie (tkX_at X (by omega)), if_neg (show ¬ p < L by omega)]
    · rw [ev, show p - pl = j by omega]
  | succ r ih =>
    intro p m j s X hp e e6 hj ev hm
    obtain ⟨m, rfl⟩ : ∃ k, m = k + 1 := ⟨m - 1, by omega⟩
    have b := (X.2.2.2.1 p (by omega)).1
    have hL := X.1
    by_cases c : isL (t p)
    · have hlo : sb (t p) = Int32.ofNat (t p) := sb_lo (by have := c.2; omega)
      have ed : dl t pl j = t p - 96 := by
        unfold dl
        rw [← hj, Nat.mod_eq_of_lt (by have := c.2; omega)]
      have step : f_X9_takeWord_L0 N (m + 1) s = f_X9_takeWord_L0 N m (hq_si (hq_si s 49 5 (Int32.ofNat (pw (cut (dl t pl) (j + 1))))) 49 3 (Int32.ofNat (p + 1))) := by
        rw [f_X9_takeWord_L0_s]
        unfold f_X9_takeWord_L0_B
        rw [e, ie (tkX_at X (by omega)), if_pos (show p < L by omega), tkX_ld X (by omega)]
        simp only [Option.bind_some]
        rw [ie (sb_97 _ b), if_neg (by have := c; unfold isL at this; omega), ie (sb_122 _ b), if_neg (by have := c; unfold isL at this; omega), e6, nb_sub (by omega), show p - pl = j by omega]
        by_cases q : j < 6
        · rw [show (5 : Int32) = Int32.ofNat 5 from rfl, nb_sub (by omega), if_neg (nn_nlt0 (by omega)), hlo]
          simp only [Option.bind_some]
          rw [show (97 : Int32) = Int32.ofNat 97 from rfl, nb_sub c.1, nn_succ, nb_mul, nb_shl (by
            rw [(lw8_pow j q).1]
            have h1 : (t p - 97 + 1) * lw8 j ≤ 26 * 33554432 := Nat.mul_le_mul (by have := c.2; omega) (lw8_pow j q).2
            omega) (by omega), ev, nb_or, nn_pi]
          simp only [Option.bind_some]
          rw [nn_pi, nn_gn (by omega), e, nn_succ, show t p - 97 + 1 = dl t pl j by rw [ed]; have := c.1; omega, (lw8_pow j q).1, pw_or (fun i => dl_lt pl i) j q]
          rfl
        · rw [if_pos (behind_lt j (by omega) (by omega))]
          simp only [Option.bind_some]
          rw [ev, nb_0, nb_or, Nat.or_zero, ← pw_ge (by omega), nn_pi]
          simp only [Option.bind_some]
          rw [nn_pi, nn_gn (by omega), e, nn_succ]
          rfl
      have k1 : kz 49 [3, 5] s (hq_si (hq_si s 49 5 (Int32.ofNat (pw (cut (dl t pl) (j + 1))))) 49 3 (Int32.ofNat (p + 1))) := kz_tr (kz_si (by decide)) (kz_si (by decide))
      obtain ⟨e', s', h1, h2, h3, h4, h5, h6, h7, h8⟩ := ih (p + 1) m (j + 1) _ (tkX_k X (kz_mono k1 (by decide))) (by omega) nn_g1 ((kz_no k1 (by decide)).trans e6) (by omega) ((nn_gn (by omega)).trans nn_g1) (by omega)
      refine ⟨e', s', by omega, h2, fun i i1 i2 => ?_, h4, by rw [step]; exact h5, h6, h7, kz_tr k1 h8⟩
      by_cases q : i = p
      · rw [q]; exact c
      · exact h3 i (by omega) i2
    · refine ⟨p, s, Nat.le_refl _, by omega, fun i h1 h2 => by omega, fun _ => c, ?_, e, by rw [ev, show p - pl = j by omega], kz_rf _ _ _⟩
      rw [f_X9_takeWord_L0_s]
      unfold f_X9_takeWord_L0_B
      rw [e, ie (tkX_at X (by omega)), if_pos (show p < L by omega), tkX_ld X (by omega)]
      simp only [Option.bind_some]
      rw [ie (sb_97 _ b), ie (sb_122 _ b)]
      unfold isL at c
      by_cases c1 : t p < 97 ∨ 128 ≤ t p
      · rw [if_pos c1]
      · rw [if_neg c1, if_pos (by omega)]
theorem tx_keys0 {v : Nat} {kf : Nat → Nat} (hv : v < 2147483648) : ∀ (r j m : Nat) (s : hq_S), (∀ i, i < 22 → hq_gi s 50 i = Int32.ofNat (kf i) ∧ kf i < 1073741824) → j + r = 22 → r + 1 < m → hq_gi s 49 4 = 2 → hq_gi s 49 5 = Int32.ofNat v → ∃ s', f_X9_takeWord_L124 N m (Int32.ofNat j) s = some s' ∧ ((∃ k, k < 22 ∧ kf k = v ∧ hq_gi s' 49 4 = 3 ∧ hq_gi s' 49 5 = Int32.ofNat k) ∨ ((∀ k, j ≤ k → k < 22 → ¬ kf k = v) ∧ hq_gi s' 49 4 = 2 ∧ hq_gi s' 49 5 = Int32.ofNat v)) ∧ kz 49 [4, 5] s s' := by
  intro r
  induction r with
  | zero =>
    intro j m s K hj hm e4 e5
    obtain ⟨m, rfl⟩ : ∃ k, m = k + 1 := ⟨m - 1, by omega⟩
    refine ⟨s, ?_, Or.inr ⟨fun k h1 h2 => by omega, e4, e5⟩, kz_rf _ _ _⟩
    rw [f_X9_takeWord_L124_s]
    unfold f_X9_takeWord_L124_B
    rw [show (22 : Int32) = Int32.ofNat 22 from rfl, ie (nb_ltp (by omega) (by omega)), if_neg (by omega)]
  | succ r ih =>
    intro j m s K hj hm e4 e5
    obtain ⟨m, rfl⟩ : ∃ k, m = k + 1 := ⟨m - 1, by omega⟩
    have kl := (K j (by omega)).2
    have ld : hq_ld s 50 22 (Int32.ofNat j) = some (Int32.ofNat (kf j)) := by
      rw [nn_ld (by omega) (by omega), (K j (by omega)).1]
    by_cases c : kf j = v
    · have k1 : kz 49 [4, 5] s (hq_si (hq_si s 49 4 3) 49 5 (Int32.ofNat j)) := kz_tr (kz_si (by decide)) (kz_si (by decide))
      refine ⟨hq_si (hq_si s 49 4 3) 49 5 (Int32.ofNat j), ?_, Or.inl ⟨j, by omega, c, (nn_gn (by omega)).trans nn_g1, nn_g1⟩, k1⟩
      rw [f_X9_takeWord_L124_s]
      unfold f_X9_takeWord_L124_B
      rw [show (22 : Int32) = Int32.ofNat 22 from rfl, ie (nb_ltp (by omega) (by omega)), if_pos (by omega), if_pos e4, ld, e5]
      simp only [Option.bind_some]
      rw [if_pos (by rw [c]), nn_pi]
      simp only [Option.bind_some]
      rw [nn_pi]
      simp only [Option.bind_some]
      rw [nn_succ]
      obtain ⟨m, rfl⟩ : ∃ k, m = k + 1 := ⟨m - 1, by omega⟩
      rw [f_X9_takeWord_L124_s]
      unfold f_X9_takeWord_L124_B
      rw [if_neg (show ¬ hq_gi (hq_si (hq_si s 49 4 3) 49 5 (Int32.ofNat j)) 49 4 = 2 by rw [nn_gn (by omega), nn_g1]; decide)]
      split <;> rfl
    · obtain ⟨s', h1, h2, h3⟩ := ih (j + 1) m s K (by omega) (by omega) e4 e5
      refine ⟨s', ?_, ?_, h3⟩
      · rw [f_X9_takeWord_L124_s]
        unfold f_X9_takeWord_L124_B
        rw [show (22 : Int32) = Int32.ofNat 22 from rfl, ie (nb_ltp (by omega) (by omega)), if_pos (by omega), if_pos e4, ld, e5]
        simp only [Option.bind_some]
        rw [if_neg (by rw [nb_eq (by omega) hv]; exact c)]
        simp only [Option.bind_some]
        rw [nn_succ]
        exact h1
      · rcases h2 with h | ⟨h, h'⟩
        · exact Or.inl h
        · refine Or.inr ⟨fun k q1 q2 => ?_, h'⟩
          by_cases q : k = j
          · rw [q]; exact c
          · exact h k (by omega) q2
theorem tx_keys {v : Nat} (hv : v < 2147483648) {m : Nat} {s : hq_S} (K : ∀ i, i < 22 → hq_gi s 50 i = hq_gi hq_s0 50 i) (hm : 23 < m) (e4 : hq_gi s 49 4 = 2) (e5 : hq_gi s 49 5 = Int32.ofNat v) : ∃ s', f_X9_takeWord_L124 N m (Int32.ofNat 0) s = some s' ∧ ((∃ k, k < 22 ∧ kk k = v ∧ hq_gi s' 49 4 = 3 ∧ hq_gi s' 49 5 = Int32.ofNat k) ∨ ((∀ k, 0 ≤ k → k < 22 → ¬ kk k = v) ∧ hq_gi s' 49 4 = 2 ∧ hq_gi s' 49 5 = Int32.ofNat v)) ∧ kz 49 [4, 5] s s' := tx_keys0 hv 22 0 m s (fun i hi => ⟨(K i hi).trans (kk_ok i hi).1, kk_lt i hi⟩) (by omega) (by omega) e4 e5
end
