/-! NUMBERS: small ints as natural numbers -/
theorem nn_toInt {j : Nat} (h : j < 2147483648) : (Int32.ofNat j).toInt = j := lw_toInt h
theorem nn_clamp {j : Nat} (h : j < 2147483648) : (Int32.ofNat j).toNatClampNeg = j := by
  rw [Int32.toNatClampNeg, nn_toInt h]
  omega
theorem nn_lt {a b : Nat} (ha : a < 2147483648) (hb : b < 2147483648) : Int32.ofNat a < Int32.ofNat b ↔ a < b := by
  rw [Int32.lt_iff_toInt_lt, nn_toInt ha, nn_toInt hb]
  omega
theorem nn_inj {a b : Nat} (ha : a < 2147483648) (hb : b < 2147483648) : Int32.ofNat a = Int32.ofNat b ↔ a = b := by
  rw [← Int32.toInt_inj, nn_toInt ha, nn_toInt hb]
  omega
theorem nn_nlt0 {a : Nat} (ha : a < 2147483648) : ¬ Int32.ofNat a < 0 := by
  rw [Int32.lt_iff_toInt_lt, nn_toInt ha, show (0 : Int32).toInt = 0 from rfl]
  omega
theorem nn_in {j L : Nat} (h : j < L) (hL : L < 2147483648) : mm_in (Int32.ofNat j) L = true := by
  unfold mm_in
  rw [decide_eq_false (nn_nlt0 (by omega)), nn_clamp (by omega), show Nat.blt j L = true from by rw [Nat.blt_eq]; exact h]
  rfl
/-- an int that isn't below 0 -/
theorem nn_of {x : Int32} (h : 0 ≤ x.toInt) : ∃ j : Nat, j < 2147483648 ∧ x = Int32.ofNat j := by
  have := Int32.toInt_lt x
  refine ⟨x.toInt.toNat, by omega, ?_⟩
  apply Int32.toInt_inj.mp
  rw [nn_toInt (by omega)]
  omega
theorem nn_ld {s : hq_S} {k L j : Nat} (h : j < L) (hL : L < 2147483648) : hq_ld s k L (Int32.ofNat j) = some (hq_gi s k j) := by
  unfold hq_ld
  rw [nn_in h hL, nn_clamp (by omega)]
  rfl
theorem nn_st {s : hq_S} {k L j : Nat} {x : Int32} (h : j < L) (hL : L < 2147483648) : hq_st s k L (Int32.ofNat j) x = some (hq_si s k j x) := by
  unfold hq_st
  rw [nn_in h hL, nn_clamp (by omega)]
  rfl
theorem nn_pi {s : hq_S} {k b : Nat} {x : Int32} : hq_pi s k b 0 x = some (hq_si s k b x) := rfl
theorem nn_g1 {s : hq_S} {k i : Nat} {x : Int32} : hq_gi (hq_si s k i x) k i = x := if_pos ⟨rfl, rfl⟩
theorem nn_gk {s : hq_S} {k k' i i' : Nat} {x : Int32} (h : ¬ k' = k) : hq_gi (hq_si s k i x) k' i' = hq_gi s k' i' := if_neg fun q => h q.1
theorem nn_gn {s : hq_S} {k k' i i' : Nat} {x : Int32} (h : ¬ i' = i) : hq_gi (hq_si s k i x) k' i' = hq_gi s k' i' := if_neg fun q => h q.2
theorem nn_succ (a : Nat) : Int32.ofNat a + (1 : Int32) = Int32.ofNat (a + 1) := (Int32.ofNat_add a 1).symm
