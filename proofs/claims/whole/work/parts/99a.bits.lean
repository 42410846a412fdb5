/-! BITS: sets of corners as natural numbers -/
theorem nb_add (a b : Nat) : Int32.ofNat a + Int32.ofNat b = Int32.ofNat (a + b) := (Int32.ofNat_add a b).symm
theorem nb_mul (a b : Nat) : Int32.ofNat a * Int32.ofNat b = Int32.ofNat (a * b) := (Int32.ofNat_mul a b).symm
theorem nb_m3 (a : Nat) : (3 : Int32) * Int32.ofNat a = Int32.ofNat (3 * a) := nb_mul 3 a
theorem nb_m4 (a : Nat) : (4 : Int32) * Int32.ofNat a = Int32.ofNat (4 * a) := nb_mul 4 a
theorem nb_m8 (a : Nat) : (8 : Int32) * Int32.ofNat a = Int32.ofNat (8 * a) := nb_mul 8 a
theorem nb_m10 (a : Nat) : (10 : Int32) * Int32.ofNat a = Int32.ofNat (10 * a) := nb_mul 10 a
theorem nb_m61 (a : Nat) : (61 : Int32) * Int32.ofNat a = Int32.ofNat (61 * a) := nb_mul 61 a
theorem nb_m1024 (a : Nat) : (1024 : Int32) * Int32.ofNat a = Int32.ofNat (1024 * a) := nb_mul 1024 a
theorem nb_8m (a : Nat) : Int32.ofNat a * (8 : Int32) = Int32.ofNat (8 * a) := by rw [Nat.mul_comm]; exact nb_mul a 8
theorem nb_10m (a : Nat) : Int32.ofNat a * (10 : Int32) = Int32.ofNat (10 * a) := by rw [Nat.mul_comm]; exact nb_mul a 10
theorem nb_61m (a : Nat) : Int32.ofNat a * (61 : Int32) = Int32.ofNat (61 * a) := by rw [Nat.mul_comm]; exact nb_mul a 61
theorem nb_sub {a b : Nat} (h : b ≤ a) : Int32.ofNat a - Int32.ofNat b = Int32.ofNat (a - b) := (Int32.ofNat_sub a b h).symm
theorem nb_0 : (0 : Int32) = Int32.ofNat 0 := rfl
theorem nb_lit (n : Nat) : (OfNat.ofNat n : Int32) = Int32.ofNat n := rfl
theorem nb_or (a b : Nat) : Int32.ofNat a ||| Int32.ofNat b = Int32.ofNat (a ||| b) := Int32.toBitVec_inj.mp (BitVec.ofNat_or (w := 32) (x := a) (y := b)).symm
theorem nb_and (a b : Nat) : Int32.ofNat a &&& Int32.ofNat b = Int32.ofNat (a &&& b) := Int32.toBitVec_inj.mp (BitVec.ofNat_and (w := 32) (x := a) (y := b)).symm
theorem nb_xor (a b : Nat) : Int32.ofNat a ^^^ Int32.ofNat b = Int32.ofNat (a ^^^ b) := Int32.toBitVec_inj.mp (BitVec.ofNat_xor (w := 32) (x := a) (y := b)).symm
theorem nb_smod : ∀ i : Nat, i < 32 → ((Int32.ofNat i &&& 31).toBitVec.smod 32).toNat = i := by decide
theorem nb_one {i : Nat} (h : i < 32) : (1 : Int32) <<< (Int32.ofNat i &&& 31) = Int32.ofNat (2 ^ i) := by
  have h1 : 2 ^ i < 2 ^ 32 := Nat.pow_lt_pow_right (by omega) h
  have := pk_shlN (n := 1) (Int32.ofNat i &&& 31) i (nb_smod i h) (by omega)
  rw [Nat.one_mul] at this
  exact this
theorem nb_shr {m i : Nat} (hm : m < 2147483648) (h : i < 32) : Int32.ofNat m >>> (Int32.ofNat i &&& 31) = Int32.ofNat (m / 2 ^ i) := pk_shrN (by omega) _ i (nb_smod i h)
theorem nb_and1 (m : Nat) : Int32.ofNat m &&& (1 : Int32) = Int32.ofNat (m % 2) := by
  rw [show (1 : Int32) = Int32.ofNat 1 from rfl, nb_and, Nat.and_one_is_mod]
theorem nb_bit {m i : Nat} (hm : m < 2147483648) (h : i < 32) : (Int32.ofNat m >>> (Int32.ofNat i &&& 31)) &&& (1 : Int32) = if m.testBit i = true then 1 else 0 := by
  rw [nb_shr hm h, nb_and1]
  by_cases q : m.testBit i = true
  · rw [if_pos q]
    have : m / 2 ^ i % 2 = 1 := by
      have h3 := Nat.testBit_eq_decide_div_mod_eq (x := m) (i := i)
      rw [q] at h3
      exact of_decide_eq_true h3.symm
    rw [this]
    rfl
  · rw [if_neg q]
    have : m / 2 ^ i % 2 = 0 := by
      have h3 := Nat.testBit_eq_decide_div_mod_eq (x := m) (i := i)
      have h4 : ¬ m / 2 ^ i % 2 = 1 := fun h5 => q (h3.trans (decide_eq_true h5))
      omega
    rw [this]
    rfl
theorem nb_bit1 {m i : Nat} (hm : m < 2147483648) (h : i < 32) : ((Int32.ofNat m >>> (Int32.ofNat i &&& 31)) &&& (1 : Int32) = 1) = (m.testBit i = true) := by
  rw [nb_bit hm h]
  by_cases q : m.testBit i = true <;> simp [q]
theorem nb_bit0 {m i : Nat} (hm : m < 2147483648) (h : i < 32) : ((Int32.ofNat m >>> (Int32.ofNat i &&& 31)) &&& (1 : Int32) = 0) = (m.testBit i = false) := by
  rw [nb_bit hm h]
  by_cases q : m.testBit i = true <;> simp [q]
/-- what is in the one and not in the other -/
def nb_df (a b : Nat) : Nat := a ^^^ (a &&& b)
theorem nb_df_t (a b i : Nat) : (nb_df a b).testBit i = (a.testBit i && !b.testBit i) := by
  unfold nb_df
  rw [Nat.testBit_xor, Nat.testBit_and]
  cases a.testBit i <;> cases b.testBit i <;> rfl
theorem nb_not (a b : Nat) : Int32.ofNat a &&& (Int32.ofNat b ^^^ (-1 : Int32)) = Int32.ofNat (nb_df a b) := by
  apply Int32.toBitVec_inj.mp
  apply BitVec.eq_of_getLsbD_eq
  intro i hi
  show ((BitVec.ofNat 32 a) &&& ((BitVec.ofNat 32 b) ^^^ (-1#32))).getLsbD i = (BitVec.ofNat 32 (nb_df a b)).getLsbD i
  have h1 : (-1#32).getLsbD i = true := by
    rw [show (-1#32) = BitVec.allOnes 32 from by decide, BitVec.getLsbD_allOnes]
    exact decide_eq_true hi
  rw [BitVec.getLsbD_and, BitVec.getLsbD_xor, h1, BitVec.getLsbD_ofNat, BitVec.getLsbD_ofNat, BitVec.getLsbD_ofNat, nb_df_t]
  rw [decide_eq_true hi]
  cases a.testBit i <;> cases b.testBit i <;> rfl
theorem nb_lt_or {a b k : Nat} (ha : a < 2 ^ k) (hb : b < 2 ^ k) : a ||| b < 2 ^ k := Nat.or_lt_two_pow ha hb
theorem nb_df_lt {a b k : Nat} (ha : a < 2 ^ k) : nb_df a b < 2 ^ k := by
  apply Nat.lt_pow_two_of_testBit
  intro i hi
  rw [nb_df_t, Nat.testBit_lt_two_pow (Nat.lt_of_lt_of_le ha (Nat.pow_le_pow_right (by omega) hi))]
  rfl
theorem nb_ext {a b : Nat} (h : ∀ i, a.testBit i = b.testBit i) : a = b := Nat.eq_of_testBit_eq h
theorem nb_2p (i j : Nat) : (2 ^ i).testBit j = decide (i = j) := by
  rw [Nat.testBit_two_pow]
theorem nb_tlt {a k i : Nat} (ha : a < 2 ^ k) (h : a.testBit i = true) : i < k := by
  by_cases q : i < k
  · exact q
  · rw [Nat.testBit_lt_two_pow (Nat.lt_of_lt_of_le ha (Nat.pow_le_pow_right (by omega) (by omega)))] at h
    cases h
theorem nb_2lt {c k : Nat} (h : c < k) : 2 ^ c < 2 ^ k := Nat.pow_lt_pow_right (by omega) h
theorem nb_ne0 {a : Nat} (h : ¬ a = 0) : ∃ i, a.testBit i = true := Nat.exists_testBit_of_ne_zero h
theorem nb_1024 {nc m : Nat} (hn : nc ≤ 10) (h : m < 2 ^ nc) : m < 1024 := Nat.lt_of_lt_of_le h (Nat.pow_le_pow_right (by omega) hn)
theorem nb_eq0 {a : Nat} (ha : a < 2147483648) : (Int32.ofNat a = 0) = (a = 0) := propext (nn_inj ha (by omega : 0 < 2147483648))
theorem nb_eq {a b : Nat} (ha : a < 2147483648) (hb : b < 2147483648) : (Int32.ofNat a = Int32.ofNat b) = (a = b) := propext (nn_inj ha hb)
theorem nb_ltp {a b : Nat} (ha : a < 2147483648) (hb : b < 2147483648) : (Int32.ofNat a < Int32.ofNat b) = (a < b) := propext (nn_lt ha hb)
theorem nb_min {a b : Nat} (ha : a < 2147483648) (hb : b < 2147483648) : hq_min (Int32.ofNat a) (Int32.ofNat b) = Int32.ofNat (min a b) := by
  unfold hq_min
  by_cases q : b < a
  · rw [if_pos ((nn_lt hb ha).mpr q), Nat.min_eq_right (by omega)]
  · rw [if_neg (fun h => q ((nn_lt hb ha).mp h)), Nat.min_eq_left (by omega)]
theorem nb_max {a b : Nat} (ha : a < 2147483648) (hb : b < 2147483648) : hq_max (Int32.ofNat a) (Int32.ofNat b) = Int32.ofNat (max a b) := by
  unfold hq_max
  by_cases q : a < b
  · rw [if_pos ((nn_lt ha hb).mpr q), Nat.max_eq_right (by omega)]
  · rw [if_neg (fun h => q ((nn_lt ha hb).mp h)), Nat.max_eq_left (by omega)]
/-- a load by a number that is known -/
theorem nb_ld {s : hq_S} {k L : Nat} {i : Int32} (j : Nat) (hi : i = Int32.ofNat j) (h : j < L) (hL : L < 2147483648) : hq_ld s k L i = some (hq_gi s k j) := by rw [hi]; exact nn_ld h hL
theorem nb_st {s : hq_S} {k L : Nat} {i x : Int32} (j : Nat) (hi : i = Int32.ofNat j) (h : j < L) (hL : L < 2147483648) : hq_st s k L i x = some (hq_si s k j x) := by rw [hi]; exact nn_st h hL
theorem nb_rem {a d : Nat} (ha : a < 2147483648) (h0 : 0 < d) (hd : d < 2147483648) : hq_irem (Int32.ofNat a) (Int32.ofNat d) = some (Int32.ofNat (a % d)) := by
  unfold hq_irem
  rw [decide_eq_false (fun q => by have := (nn_inj hd (by omega : 0 < 2147483648)).mp q; omega)]
  exact congrArg some (pk_rem (by omega) h0 (by omega))
theorem nb_div {a d : Nat} (ha : a < 2147483648) (h0 : 0 < d) (hd : d < 2147483648) : hq_idiv (Int32.ofNat a) (Int32.ofNat d) = some (Int32.ofNat (a / d)) := by
  unfold hq_idiv
  rw [decide_eq_false (fun q => by have := (nn_inj hd (by omega : 0 < 2147483648)).mp q; omega)]
  exact congrArg some (pk_div (by omega) h0 (by omega))
theorem nb_i64 {a : Nat} (h : a < 2147483648) : (Int32.ofNat a).toInt64 = Int64.ofNat a := nI_l (by omega)
theorem nb_ldj {s : hq_S} {k L j : Nat} (h : j < L) (hL : L < 2147483648) : hq_ldj s k L (Int32.ofNat j) = some (hq_gj s k j) := by
  unfold hq_ldj
  rw [nn_in h hL, nn_clamp (by omega)]
  rfl
theorem nb_stj {s : hq_S} {k L j : Nat} {x : Int64} (h : j < L) (hL : L < 2147483648) : hq_stj s k L (Int32.ofNat j) x = some (hq_sj s k j x) := by
  unfold hq_stj
  rw [nn_in h hL, nn_clamp (by omega)]
  rfl
/-! reading behind a write -/
theorem nb_ii {s : hq_S} {k i k' i' : Nat} {x : Int32} : hq_gi (hq_si s k i x) k' i' = if k' = k ∧ i' = i then x else hq_gi s k' i' := rfl
theorem nb_ij {s : hq_S} {k i k' i' : Nat} {x : Int32} : hq_gj (hq_si s k i x) k' i' = hq_gj s k' i' := rfl
theorem nb_ir {s : hq_S} {k i k' i' : Nat} {x : Int32} : hq_gr (hq_si s k i x) k' i' = hq_gr s k' i' := rfl
theorem nb_ji {s : hq_S} {k i k' i' : Nat} {x : Int64} : hq_gi (hq_sj s k i x) k' i' = hq_gi s k' i' := rfl
theorem nb_jj {s : hq_S} {k i k' i' : Nat} {x : Int64} : hq_gj (hq_sj s k i x) k' i' = if k' = k ∧ i' = i then x else hq_gj s k' i' := rfl
theorem nb_jr {s : hq_S} {k i k' i' : Nat} {x : Int64} : hq_gr (hq_sj s k i x) k' i' = hq_gr s k' i' := rfl
theorem nb_ri {s : hq_S} {k i k' i' x : Nat} : hq_gi (hq_sr s k i x) k' i' = hq_gi s k' i' := rfl
theorem nb_rj {s : hq_S} {k i k' i' x : Nat} : hq_gj (hq_sr s k i x) k' i' = hq_gj s k' i' := rfl
theorem nb_rr {s : hq_S} {k i k' i' x : Nat} : hq_gr (hq_sr s k i x) k' i' = if k' = k ∧ i' = i then x else hq_gr s k' i' := rfl
