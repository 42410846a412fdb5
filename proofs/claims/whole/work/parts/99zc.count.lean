/-! BITS COUNTED: by halves, and one by one -/
theorem nb_ush {m i : Nat} {u : UInt32} (hm : m < 4294967296) (hu : u.toNat = i) (hi : i < 32) : ((Int32.ofNat m).toUInt32 >>> u).toInt32 = Int32.ofNat (m / 2 ^ i) := by
  have hd : m / 2 ^ i ≤ m := Nat.div_le_self _ _
  have h : UInt32.ofNat m >>> u = UInt32.ofNat (m / 2 ^ i) := by
    apply UInt32.toNat_inj.mp
    rw [UInt32.toNat_shiftRight, UInt32.toNat_ofNat', UInt32.toNat_ofNat', hu, Nat.mod_eq_of_lt hi, Nat.shiftRight_eq_div_pow, Nat.mod_eq_of_lt (show m < 2 ^ 32 by omega), Nat.mod_eq_of_lt (show m / 2 ^ i < 2 ^ 32 by omega)]
  exact congrArg UInt32.toInt32 h
def bc_1 (a : Nat) : Nat := a - (a / 2 ^ 1 &&& 1431655765)
def bc_2 (a : Nat) : Nat := (a &&& 858993459) + (a / 2 ^ 2 &&& 858993459)
def bc_3 (a : Nat) : Nat := (a + a / 2 ^ 4) &&& 252645135
def bc_4 (a : Nat) : Nat := a + a / 2 ^ 8
def bc_5 (a : Nat) : Nat := (a + a / 2 ^ 16) &&& 63
theorem bc_f {N a : Nat} {s : hq_S} (ha : a < 1048576) : f_J6_bitCount_0f7a4 N (Int32.ofNat a) s = some (Int32.ofNat (bc_5 (bc_4 (bc_3 (bc_2 (bc_1 a))))), s) := by
  have h1 : (a / 2 ^ 1 &&& 1431655765) ≤ a := Nat.le_trans Nat.and_le_left (Nat.div_le_self _ _)
  have v1 : bc_1 a < 1048576 := by unfold bc_1; omega
  generalize hb1 : bc_1 a = b at v1 ⊢
  have v2 : bc_2 b < 2097152 := by
    have e1 : (b &&& 858993459) ≤ b := Nat.and_le_left
    have e2 : (b / 2 ^ 2 &&& 858993459) ≤ b := Nat.le_trans Nat.and_le_left (Nat.div_le_self _ _)
    unfold bc_2; omega
  generalize hb2 : bc_2 b = c at v2 ⊢
  have v3 : bc_3 c < 4194304 := by
    have e1 : bc_3 c ≤ c + c / 2 ^ 4 := Nat.and_le_left
    have e2 : c / 2 ^ 4 ≤ c := Nat.div_le_self _ _
    omega
  generalize hb3 : bc_3 c = d at v3 ⊢
  have v4 : bc_4 d < 8388608 := by
    have e2 : d / 2 ^ 8 ≤ d := Nat.div_le_self _ _
    unfold bc_4; omega
  generalize hb4 : bc_4 d = e at v4 ⊢
  have s1 : ((Int32.ofNat a).toUInt32 >>> ((1 : Int32).toUInt32 &&& Int32.toUInt32 31)).toInt32 = Int32.ofNat (a / 2 ^ 1) := nb_ush (by omega) (by decide) (by omega)
  have s2 : ((Int32.ofNat b).toUInt32 >>> ((2 : Int32).toUInt32 &&& Int32.toUInt32 31)).toInt32 = Int32.ofNat (b / 2 ^ 2) := nb_ush (by omega) (by decide) (by omega)
  have s3 : ((Int32.ofNat c).toUInt32 >>> ((4 : Int32).toUInt32 &&& Int32.toUInt32 31)).toInt32 = Int32.ofNat (c / 2 ^ 4) := nb_ush (by omega) (by decide) (by omega)
  have s4 : ((Int32.ofNat d).toUInt32 >>> ((8 : Int32).toUInt32 &&& Int32.toUInt32 31)).toInt32 = Int32.ofNat (d / 2 ^ 8) := nb_ush (by omega) (by decide) (by omega)
  have s5 : ((Int32.ofNat e).toUInt32 >>> ((16 : Int32).toUInt32 &&& Int32.toUInt32 31)).toInt32 = Int32.ofNat (e / 2 ^ 16) := nb_ush (by omega) (by decide) (by omega)
  have m1 : Int32.ofNat (a / 2 ^ 1) &&& (1431655765 : Int32) = Int32.ofNat (a / 2 ^ 1 &&& 1431655765) := nb_and _ 1431655765
  have m2 : Int32.ofNat b &&& (858993459 : Int32) = Int32.ofNat (b &&& 858993459) := nb_and _ 858993459
  have m3 : Int32.ofNat (b / 2 ^ 2) &&& (858993459 : Int32) = Int32.ofNat (b / 2 ^ 2 &&& 858993459) := nb_and _ 858993459
  have m4 : Int32.ofNat (c + c / 2 ^ 4) &&& (252645135 : Int32) = Int32.ofNat ((c + c / 2 ^ 4) &&& 252645135) := nb_and _ 252645135
  have m5 : Int32.ofNat (e + e / 2 ^ 16) &&& (63 : Int32) = Int32.ofNat ((e + e / 2 ^ 16) &&& 63) := nb_and _ 63
  have k1 : Int32.ofNat a - Int32.ofNat (a / 2 ^ 1 &&& 1431655765) = Int32.ofNat b := by rw [nb_sub h1, ← hb1]; rfl
  have k2 : Int32.ofNat (b &&& 858993459) + Int32.ofNat (b / 2 ^ 2 &&& 858993459) = Int32.ofNat c := by rw [nb_add, ← hb2]; rfl
  have k3 : Int32.ofNat ((c + c / 2 ^ 4) &&& 252645135) = Int32.ofNat d := by rw [← hb3]; rfl
  have k4 : Int32.ofNat d + Int32.ofNat (d / 2 ^ 8) = Int32.ofNat e := by rw [nb_add, ← hb4]; rfl
  have k5 : Int32.ofNat ((e + e / 2 ^ 16) &&& 63) = Int32.ofNat (bc_5 e) := rfl
  have a3 : Int32.ofNat c + Int32.ofNat (c / 2 ^ 4) = Int32.ofNat (c + c / 2 ^ 4) := nb_add _ _
  have a5 : Int32.ofNat e + Int32.ofNat (e / 2 ^ 16) = Int32.ofNat (e + e / 2 ^ 16) := nb_add _ _
  rw [f_J6_bitCount_0f7a4, s1, m1, k1, s2, m2, m3, k2, s3, a3, m4, k3, s4, k4, s5, a5, m5, k5]
theorem bc_and {x y m M : Nat} (hx : x < 256) (hm : m < 256) : (x + 256 * y) &&& (m + 256 * M) = (x &&& m) + 256 * (y &&& M) := by
  have h1 : ((x + 256 * y) &&& (m + 256 * M)) % 2 ^ 8 = ((x + 256 * y) % 2 ^ 8) &&& ((m + 256 * M) % 2 ^ 8) := Nat.and_mod_two_pow
  have h2 : ((x + 256 * y) &&& (m + 256 * M)) / 2 ^ 8 = ((x + 256 * y) / 2 ^ 8) &&& ((m + 256 * M) / 2 ^ 8) := Nat.and_div_two_pow
  have e1 : (x + 256 * y) % 2 ^ 8 = x := by omega
  have e2 : (m + 256 * M) % 2 ^ 8 = m := by omega
  have e3 : (x + 256 * y) / 2 ^ 8 = y := by omega
  have e4 : (m + 256 * M) / 2 ^ 8 = M := by omega
  rw [e1, e2] at h1
  rw [e3, e4] at h2
  rw [← h1, ← h2]
  generalize ((x + 256 * y) &&& (m + 256 * M)) = z
  omega
def bc_l1 (a : Nat) : Nat := a - (a / 2 &&& 85)
def bc_l2 (a : Nat) : Nat := (bc_l1 a &&& 51) + (bc_l1 a / 4 &&& 51)
def bc_h1 (a : Nat) : Nat := a - (a / 2 &&& 5592405)
def bc_h2 (a : Nat) : Nat := (bc_h1 a &&& 3355443) + (bc_h1 a / 4 &&& 3355443)
def bc_h3 (a : Nat) : Nat := (bc_h2 a + bc_h2 a / 16) &&& 986895
theorem bc_A : ∀ a : Nat, a < 256 → ∀ b : Nat, b < 2 → ((a / 2 + 128 * b) &&& 85) = (a / 2 &&& 85) := by decide +kernel
theorem bc_B : ∀ a : Nat, a < 256 → ∀ b : Nat, b < 4 → ((a / 4 + 64 * b) &&& 51) = (a / 4 &&& 51) := by decide +kernel
theorem bc_C : ∀ a : Nat, a < 256 → bc_l1 a < 256 ∧ bc_l2 a ≤ 68 ∧ (a / 2 &&& 85) ≤ a := by decide +kernel
theorem bc_D : ∀ a : Nat, a < 256 → ∀ b : Nat, b < 5 → ((bc_l2 a + bc_l2 a / 16 + 16 * b) &&& 15) = nb_pop a 8 := by decide +kernel
theorem bc_E0 : ∀ h : Nat, h < 64 → ∀ l : Nat, l < 64 → bc_h2 (64 * h + l) % 16 < 5 ∧ bc_h3 (64 * h + l) / 256 ≤ 4 ∧ bc_h3 (64 * h + l) % 256 ≤ 8 ∧ bc_h3 (64 * h + l) % 256 + bc_h3 (64 * h + l) / 256 = nb_pop (64 * h + l) 12 ∧ ((64 * h + l) / 2 &&& 5592405) ≤ (64 * h + l) := by decide +kernel
theorem bc_E {a : Nat} (ha : a < 4096) : bc_h2 a % 16 < 5 ∧ bc_h3 a / 256 ≤ 4 ∧ bc_h3 a % 256 ≤ 8 ∧ bc_h3 a % 256 + bc_h3 a / 256 = nb_pop a 12 ∧ (a / 2 &&& 5592405) ≤ a := by
  have h := bc_E0 (a / 64) (by omega) (a % 64) (by omega)
  rw [Nat.div_add_mod] at h
  exact h
theorem bc_pop {l h : Nat} (hl : l < 256) : ∀ k, nb_pop (l + 256 * h) (8 + k) = nb_pop l 8 + nb_pop h k := by
  have e : l + 256 * h = 2 ^ 8 * h + l := by omega
  have lo : ∀ i, i ≤ 8 → nb_pop (l + 256 * h) i = nb_pop l i := by
    intro i
    induction i with
    | zero => intro _; rfl
    | succ i ih =>
      intro hi
      have ht : (l + 256 * h).testBit i = l.testBit i := by rw [e, Nat.testBit_two_pow_mul_add _ hl, if_pos (show i < 8 by omega)]
      rw [nb_pop, nb_pop, ih (by omega), ht]
  intro k
  induction k with
  | zero => exact lo 8 (by omega)
  | succ k ih =>
    have e2 : 8 + (k + 1) = (8 + k) + 1 := by omega
    have e3 : 8 + k - 8 = k := by omega
    have ht : (l + 256 * h).testBit (8 + k) = h.testBit k := by rw [e, Nat.testBit_two_pow_mul_add _ hl, if_neg (show ¬ 8 + k < 8 by omega), e3]
    show nb_pop (l + 256 * h) (8 + k) + (if (l + 256 * h).testBit (8 + k) = true then 1 else 0) = nb_pop l 8 + (nb_pop h k + (if h.testBit k = true then 1 else 0))
    rw [ih, ht, Nat.add_assoc]
theorem bc_n {a : Nat} (ha : a < 1048576) : bc_5 (bc_4 (bc_3 (bc_2 (bc_1 a)))) = nb_pop a 20 := by
  obtain ⟨l, h, hl, hh, rfl⟩ : ∃ l h : Nat, l < 256 ∧ h < 4096 ∧ a = l + 256 * h := ⟨a % 256, a / 256, by omega, by omega, by omega⟩
  obtain ⟨c1, c2, c3⟩ := bc_C l hl
  obtain ⟨E1, E2, E3, E4, E5⟩ := bc_E hh
  have p := bc_pop (h := h) hl 12
  have f1 : bc_1 (l + 256 * h) = bc_l1 l + 256 * bc_h1 h := by
    have q : (l + 256 * h) / 2 ^ 1 = (l / 2 + 128 * (h % 2)) + 256 * (h / 2) := by omega
    have m : (1431655765 : Nat) = 85 + 256 * 5592405 := rfl
    unfold bc_1 bc_l1 bc_h1
    rw [q, m, bc_and (by omega) (by omega), bc_A l hl _ (by omega)]
    omega
  have f2 : bc_2 (bc_l1 l + 256 * bc_h1 h) = bc_l2 l + 256 * bc_h2 h := by
    have m : (858993459 : Nat) = 51 + 256 * 3355443 := rfl
    unfold bc_2 bc_l2 bc_h2
    have q : (bc_l1 l + 256 * bc_h1 h) / 2 ^ 2 = (bc_l1 l / 4 + 64 * (bc_h1 h % 4)) + 256 * (bc_h1 h / 4) := by omega
    rw [q, m, bc_and c1 (by omega), bc_and (by omega) (by omega), bc_B _ c1 _ (by omega)]
    omega
  have f3 : bc_3 (bc_l2 l + 256 * bc_h2 h) = nb_pop l 8 + 256 * bc_h3 h := by
    have m : (252645135 : Nat) = 15 + 256 * 986895 := rfl
    have q : (bc_l2 l + 256 * bc_h2 h) + (bc_l2 l + 256 * bc_h2 h) / 2 ^ 4 = (bc_l2 l + bc_l2 l / 16 + 16 * (bc_h2 h % 16)) + 256 * (bc_h2 h + bc_h2 h / 16) := by omega
    unfold bc_3 bc_h3
    rw [q, m, bc_and (by omega) (by omega), bc_D l hl _ E1]
  have p8 := nb_pop_le l 8
  have p12 := nb_pop_le h 12
  have n63 : ∀ x : Nat, x &&& 63 = x % 64 := fun x => Nat.and_two_pow_sub_one_eq_mod x 6
  have p20 : nb_pop (l + 256 * h) 20 = nb_pop l 8 + nb_pop h 12 := p
  rw [f1, f2, f3, p20]
  unfold bc_5 bc_4
  rw [n63]
  rw [← E4]
  generalize nb_pop l 8 = x at p8
  generalize bc_h3 h = z at E2 E3
  clear E4 E5 E1 p p20 p12 f1 f2 f3 c1 c2 c3 n63
  have q1 : (x + 256 * z) / 2 ^ 8 = z := by omega
  have q2 : (x + 256 * z + z) / 2 ^ 16 = z / 256 := by omega
  rw [q1, q2]
  omega
/-- both count alike -/
theorem hb_bc {N a : Nat} {s : hq_S} (ha : a < 1048576) : f_J6_bitCount_0f7a4 N (Int32.ofNat a) s = some (Int32.ofNat (nb_pop a 20), s) := by rw [bc_f ha, bc_n ha]
section
variable {HC : hq_S → Prop} {N : Nat}
theorem hs_op_46 (hc : hc_loc HC) (hN : 300 < N) (a1 : Int32) : hq_Sim (hR HC) (f_X11_count N a1) (f_X12_count N a1) := hs_mk hc (WX := w_X11_count) (WM := w_X12_count) (by decide) (by decide) (by decide) (fun _ _ => f_X11_count_fw) (fun _ _ => f_X12_count_fw) fun sx sm R => by
  obtain ⟨nc, nl, ng, nt, t, bar, fr, to, on, TT⟩ := R.2.2.2.2.2
  obtain ⟨I, T⟩ := hT_th 0 R.2.2.1 TT
  generalize hs : hq_si sm 174 0 0 = s0 at I T
  obtain ⟨⟨t1, t2, t3⟩, Te, -, W, Fa, -, u, hu, u1, u2, -⟩ := T
  have Te0 := Te
  obtain ⟨⟨b1, b2, b3, b4⟩, ⟨n1, n2, n3, n4, n5, n6, n7, n8⟩, -, -, -, -, -, -, -, -, ⟨ru, -, ru1, ru2⟩, -⟩ := Te
  obtain ⟨k, hk, k1, k2, k3, -⟩ := Fa
  have iT : hq_isT t := by rcases t2 with rfl | rfl <;> decide
  have hp : (hq_pi sm 174 0 0 (0 : Int32)) = some s0 := by rw [nn_pi, hs]
  obtain ⟨v6, x6, y6⟩ := hp_caught (N := N) (l := 0) (by omega) (by omega) Te0 W
  obtain ⟨v7, x7, y7⟩ := hp_loot (N := N) (l := 0) (by omega) (by omega) b1 W
  obtain ⟨v8, x8, y8⟩ := hp_had (N := N) (l := 0) (by omega) (by omega) b4 W
  have y6 : f_X12_caughtOnes N 0 s0 = some (v6, s0) := y6
  have y7 : f_X12_sumOf N 199 10 0 s0 = some (v7, s0) := y7
  have y8 : f_X12_sumOf N 204 4 0 s0 = some (v8, s0) := y8
  have w0 : hq_gi sx 76 0 = hq_gi s0 196 0 := W.1
  obtain ⟨d, hd, d1, d2⟩ := W.2.2.1
  have x9 : f_J6_bitCount_0f7a4 N (Int32.ofNat d) sx = some (Int32.ofNat (nb_pop d 20), sx) := hb_bc hd
  have y9 : f_X12_bitsOf N (Int32.ofNat d) s0 = some (Int32.ofNat (nb_pop d 20), s0) := hb_bits (by omega) (by omega)
  have l0 : hq_ld s0 176 14 0 = some (Int32.ofNat nc) := by rw [nb_lit 0, nn_ld (by omega) (by omega), n2]
  have l1 : hq_ld s0 176 14 1 = some (Int32.ofNat nl) := by rw [nb_lit 1, nn_ld (by omega) (by omega), n4]
  have l2 : hq_ld s0 176 14 2 = some (Int32.ofNat ng) := by rw [nb_lit 2, nn_ld (by omega) (by omega), n6]
  have l3 : hq_ld s0 176 14 3 = some (Int32.ofNat nt) := by rw [nb_lit 3, nn_ld (by omega) (by omega), n8]
  have l4 : hq_ld s0 176 14 6 = some (Int32.ofNat ru) := by rw [nb_lit 6, nn_ld (by omega) (by omega), ru2]
  have l5 : hq_ld s0 196 23 0 = some (hq_gi s0 196 0) := by rw [nb_0, nn_ld (by omega) (by omega)]
  have l9 : hq_ld s0 198 23 0 = some (Int32.ofNat d) := by rw [nb_0, nn_ld (by omega) (by omega), d2]
  by_cases q0 : a1 = (0 : Int32)
  · exact ⟨Int32.ofNat nc, sx, s0, by simp only [f_X11_count, t1, if_pos iT, Option.bind_some, if_pos q0, n1], by simp only [f_X12_count, hp, Option.bind_some, if_pos q0, l0]⟩
  by_cases q1 : a1 = (1 : Int32)
  · exact ⟨Int32.ofNat nl, sx, s0, by simp only [f_X11_count, t1, if_pos iT, Option.bind_some, if_neg q0, if_pos q1, n3], by simp only [f_X12_count, hp, Option.bind_some, if_neg q0, if_pos q1, l1]⟩
  by_cases q2 : a1 = (2 : Int32)
  · exact ⟨Int32.ofNat ng, sx, s0, by simp only [f_X11_count, t1, if_pos iT, Option.bind_some, if_neg q0, if_neg q1, if_pos q2, n5], by simp only [f_X12_count, hp, Option.bind_some, if_neg q0, if_neg q1, if_pos q2, l2]⟩
  by_cases q3 : a1 = (3 : Int32)
  · exact ⟨Int32.ofNat nt, sx, s0, by simp only [f_X11_count, t1, if_pos iT, Option.bind_some, if_neg q0, if_neg q1, if_neg q2, if_pos q3, n7], by simp only [f_X12_count, hp, Option.bind_some, if_neg q0, if_neg q1, if_neg q2, if_pos q3, l3]⟩
  by_cases q4 : a1 = (4 : Int32)
  · exact ⟨Int32.ofNat ru, sx, s0, by simp only [f_X11_count, t1, if_pos iT, Option.bind_some, if_neg q0, if_neg q1, if_neg q2, if_neg q3, if_pos q4, ru1], by simp only [f_X12_count, hp, Option.bind_some, if_neg q0, if_neg q1, if_neg q2, if_neg q3, if_pos q4, l4]⟩
  by_cases q5 : a1 = (5 : Int32)
  · exact ⟨hq_gi s0 196 0, sx, s0, by simp only [f_X11_count, t1, if_pos iT, Option.bind_some, if_neg q0, if_neg q1, if_neg q2, if_neg q3, if_neg q4, if_pos q5, w0], by simp only [f_X12_count, hp, Option.bind_some, if_neg q0, if_neg q1, if_neg q2, if_neg q3, if_neg q4, if_pos q5, l5]⟩
  by_cases q6 : a1 = (6 : Int32)
  · exact ⟨v6, sx, s0, by simp only [f_X11_count, t1, if_pos iT, Option.bind_some, if_neg q0, if_neg q1, if_neg q2, if_neg q3, if_neg q4, if_neg q5, if_pos q6, n7, x6], by simp only [f_X12_count, hp, Option.bind_some, if_neg q0, if_neg q1, if_neg q2, if_neg q3, if_neg q4, if_neg q5, if_pos q6, y6]⟩
  by_cases q7 : a1 = (7 : Int32)
  · exact ⟨v7, sx, s0, by simp only [f_X11_count, t1, if_pos iT, Option.bind_some, if_neg q0, if_neg q1, if_neg q2, if_neg q3, if_neg q4, if_neg q5, if_neg q6, if_pos q7, n1, x7], by simp only [f_X12_count, hp, Option.bind_some, if_neg q0, if_neg q1, if_neg q2, if_neg q3, if_neg q4, if_neg q5, if_neg q6, if_pos q7, y7]⟩
  by_cases q8 : a1 = (8 : Int32)
  · exact ⟨v8, sx, s0, by simp only [f_X11_count, t1, if_pos iT, Option.bind_some, if_neg q0, if_neg q1, if_neg q2, if_neg q3, if_neg q4, if_neg q5, if_neg q6, if_neg q7, if_pos q8, n7, x8], by simp only [f_X12_count, hp, Option.bind_some, if_neg q0, if_neg q1, if_neg q2, if_neg q3, if_neg q4, if_neg q5, if_neg q6, if_neg q7, if_pos q8, y8]⟩
  by_cases q9 : a1 = (9 : Int32)
  · exact ⟨Int32.ofNat (nb_pop d 20), sx, s0, by simp only [f_X11_count, t1, if_pos iT, Option.bind_some, if_neg q0, if_neg q1, if_neg q2, if_neg q3, if_neg q4, if_neg q5, if_neg q6, if_neg q7, if_neg q8, if_pos q9, d1, x9], by simp only [f_X12_count, hp, Option.bind_some, if_neg q0, if_neg q1, if_neg q2, if_neg q3, if_neg q4, if_neg q5, if_neg q6, if_neg q7, if_neg q8, if_pos q9, l9, y9]⟩
  by_cases q10 : a1 = (10 : Int32)
  · exact ⟨Int32.ofNat k, sx, s0, by simp only [f_X11_count, t1, if_pos iT, Option.bind_some, if_neg q0, if_neg q1, if_neg q2, if_neg q3, if_neg q4, if_neg q5, if_neg q6, if_neg q7, if_neg q8, if_neg q9, if_pos q10, k1], by simp only [f_X12_count, hp, Option.bind_some, if_neg q0, if_neg q1, if_neg q2, if_neg q3, if_neg q4, if_neg q5, if_neg q6, if_neg q7, if_neg q8, if_neg q9, if_pos q10, k2]⟩
  by_cases q11 : a1 = (11 : Int32)
  · rcases k3 with ⟨k4, k5⟩ | ⟨j, hj, k4, k5⟩
    · exact ⟨Int32.ofNat k, sx, s0, by simp only [f_X11_count, f_X2_knownBy, Option.bind_some, if_neg q0, if_neg q1, if_neg q2, if_neg q3, if_neg q4, if_neg q5, if_neg q6, if_neg q7, if_neg q8, if_neg q9, if_neg q10, if_pos q11, k4, if_true, k1], by simp only [f_X12_count, f_X12_knownMany, hp, Option.bind_some, if_neg q0, if_neg q1, if_neg q2, if_neg q3, if_neg q4, if_neg q5, if_neg q6, if_neg q7, if_neg q8, if_neg q9, if_neg q10, if_pos q11, k5, if_true, k2]⟩
    · have z : ¬ Int32.ofNat j = -1 := fun z => nn_nlt0 (a := j) (by omega) (by rw [z]; decide)
      exact ⟨Int32.ofNat j, sx, s0, by simp only [f_X11_count, f_X2_knownBy, Option.bind_some, if_neg q0, if_neg q1, if_neg q2, if_neg q3, if_neg q4, if_neg q5, if_neg q6, if_neg q7, if_neg q8, if_neg q9, if_neg q10, if_pos q11, k4, if_neg z], by simp only [f_X12_count, f_X12_knownMany, hp, Option.bind_some, if_neg q0, if_neg q1, if_neg q2, if_neg q3, if_neg q4, if_neg q5, if_neg q6, if_neg q7, if_neg q8, if_neg q9, if_neg q10, if_pos q11, k5, if_neg z]⟩
  by_cases q12 : a1 = (12 : Int32)
  · exact ⟨Int32.ofNat u, sx, s0, by simp only [f_X11_count, t1, if_pos iT, Option.bind_some, if_neg q0, if_neg q1, if_neg q2, if_neg q3, if_neg q4, if_neg q5, if_neg q6, if_neg q7, if_neg q8, if_neg q9, if_neg q10, if_neg q11, if_pos q12, u1], by simp only [f_X12_count, hp, Option.bind_some, if_neg q0, if_neg q1, if_neg q2, if_neg q3, if_neg q4, if_neg q5, if_neg q6, if_neg q7, if_neg q8, if_neg q9, if_neg q10, if_neg q11, if_pos q12, u2]⟩
  exact ⟨-1, sx, s0, by simp only [f_X11_count, if_neg q0, if_neg q1, if_neg q2, if_neg q3, if_neg q4, if_neg q5, if_neg q6, if_neg q7, if_neg q8, if_neg q9, if_neg q10, if_neg q11, if_neg q12], by simp only [f_X12_count, hp, Option.bind_some, if_neg q0, if_neg q1, if_neg q2, if_neg q3, if_neg q4, if_neg q5, if_neg q6, if_neg q7, if_neg q8, if_neg q9, if_neg q10, if_neg q11, if_neg q12]⟩
end
