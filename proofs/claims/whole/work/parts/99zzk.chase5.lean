/-! THE REFERENCE'S CHASE -/
def cm_F (n g : Nat) (nx : Nat → Nat) (s : hq_S) : Prop := hl_R n nx s ∧ hq_gi s 174 60 = Int32.ofNat g ∧ ∀ i, i < 5 → hq_gi s 212 i = Int32.ofNat (10 ^ i)
/-- all digits are corners -/
def cV (n g x : Nat) : Prop := ∀ j, j < g + 1 → dgs 10 (g + 1) x j < n
def gb (M : Nat) (s : hq_S) (k : Nat) (P : Nat → Prop) : Prop := ∀ x, x < M → (hq_gi s k x = 1 ∧ P x) ∨ (hq_gi s k x = 0 ∧ ¬ P x)
/-- roundsBy by round k -/
def rb (n g : Nat) (tn : Nat → Nat) (k x : Nat) (v : Int32) : Prop := (∃ j, j ≤ k ∧ cV n g x ∧ cE n g tn j (dgs 10 (g + 1) x) (dgs 10 (g + 1) x g) ∧ v = Int32.ofNat j) ∨ (v = -1 ∧ ¬ (cV n g x ∧ cL n g tn k (dgs 10 (g + 1) x) (dgs 10 (g + 1) x g)))
section
variable {N n g : Nat} {nx : Nat → Nat}
theorem cm_F_k {s s' : hq_S} (e : ∀ c i, c = 174 ∨ c = 176 ∨ c = 206 ∨ c = 212 → hq_gi s' c i = hq_gi s c i) (F : cm_F n g nx s) : cm_F n g nx s' := ⟨⟨by rw [e _ _ (by omega)]; exact F.1.1, fun c hc => by rw [e _ _ (by omega)]; exact F.1.2 c hc⟩, by rw [e _ _ (by omega)]; exact F.2.1, fun i hi => by rw [e _ _ (by omega)]; exact F.2.2 i hi⟩
theorem cm_n {s : hq_S} (F : cm_F n g nx s) : hq_ld s 176 14 0 = some (Int32.ofNat n) := by rw [nb_0, nn_ld (by omega) (by omega), F.1.1]
theorem cm_p {s : hq_S} {i : Nat} (hi : i < 5) (F : cm_F n g nx s) : hq_ld s 212 5 (Int32.ofNat i) = some (Int32.ofNat (10 ^ i)) := by rw [nn_ld (by omega) (by omega), F.2.2 i hi]
theorem p10g (hg : g ≤ 3) : 10 ^ (g + 1) ≤ 10000 := Nat.pow_le_pow_right (by omega) (show g + 1 ≤ 4 by omega)
theorem r10_ix {X d e : Nat} (hX : X < 10000) (h1 : X % 10 = d) (h2 : X / 10 = e) : hq_irem (Int32.ofNat X) (10 : Int32) = some (Int32.ofNat d) ∧ hq_idiv (Int32.ofNat X) (10 : Int32) = some (Int32.ofNat e) := by
  rw [← h1, ← h2, nb_lit 10]
  exact ⟨nb_rem (by omega) (by omega) (by omega), nb_div (by omega) (by omega) (by omega)⟩
theorem r10_7 {x : Nat} {a1 : Int32} (hn : n ≤ 10) (hg : g ≤ 3) (dg : Nat → Nat) (qt : Nat → Nat) (hq0 : ∀ q, qt q < 10000) (hqd : ∀ q, q ≤ g → qt (q + 1) % 10 = dg q) (hqe : ∀ q, q ≤ g → qt (q + 1) / 10 = qt q) : ∀ (q m : Nat) (s : hq_S), q ≤ g + 1 → q < m → cm_F n g nx s → (∀ j, q ≤ j → j < g + 1 → dg j < n ∧ hq_gi s 211 j = Int32.ofNat (dg j)) → ∃ v s', f_X12_reads10_L7 N m a1 (Int32.ofNat (qt q)) (Int32.ofNat q - 1) s = some (v, s') ∧ (∀ c i, ¬ c = 211 → hq_gi s' c i = hq_gi s c i) ∧ ((v = 1 ∧ (∀ j, j < g + 1 → dg j < n) ∧ ∀ j, j < g + 1 → hq_gi s' 211 j = Int32.ofNat (dg j)) ∨ (v = 0 ∧ ¬ ∀ j, j < g + 1 → dg j < n)) := by
  intro q
  induction q with
  | zero =>
    intro m s hq hm F h
    obtain ⟨m, rfl⟩ : ∃ j, m = j + 1 := ⟨m - 1, by omega⟩
    have cc : Int32.ofNat 0 - 1 < (0 : Int32) := by decide
    exact ⟨1, s, by simp only [f_X12_reads10_L7_s, f_X12_reads10_L7_B, if_pos cc], fun _ _ _ => rfl, Or.inl ⟨rfl, fun j hj => (h j (by omega) hj).1, fun j hj => (h j (by omega) hj).2⟩⟩
  | succ q ih =>
    intro m s hq hm F h
    obtain ⟨m, rfl⟩ : ∃ j, m = j + 1 := ⟨m - 1, by omega⟩
    have nq : ¬ Int32.ofNat q < 0 := nn_nlt0 (by omega)
    obtain ⟨rm, dv⟩ := r10_ix (hq0 (q + 1)) (hqd q (by omega)) (hqe q (by omega))
    have dl : dg q < 10 := by rw [← hqd q (by omega)]; exact Nat.mod_lt _ (by omega)
    have st : hq_st s 211 4 (Int32.ofNat q) (Int32.ofNat (dg q)) = some (hq_si s 211 q (Int32.ofNat (dg q))) := nn_st (by omega) (by omega)
    have ow : ∀ c i, ¬ c = 211 → hq_gi (hq_si s 211 q (Int32.ofNat (dg q))) c i = hq_gi s c i := fun c i h => by rw [nb_ii, if_neg (fun z => h z.1)]
    have F2 : cm_F n g nx (hq_si s 211 q (Int32.ofNat (dg q))) := cm_F_k (fun c i h => ow c i (by omega)) F
    have ld : hq_ld (hq_si s 211 q (Int32.ofNat (dg q))) 211 4 (Int32.ofNat q) = some (Int32.ofNat (dg q)) := by rw [nn_ld (by omega) (by omega), nb_ii, if_pos ⟨rfl, rfl⟩]
    have lt : (Int32.ofNat (dg q) < Int32.ofNat n) = (dg q < n) := nb_ltp (by omega) (by omega)
    by_cases q1 : dg q < n
    · obtain ⟨v, s', e1, e2, e3⟩ := ih m _ (by omega) (by omega) F2 (fun j h1 h2 => by
        by_cases e : j = q
        · rw [e, nb_ii, if_pos ⟨rfl, rfl⟩]
          exact ⟨q1, rfl⟩
        · rw [nb_ii, if_neg (fun z => e z.2)]
          exact h j (by omega) h2)
      refine ⟨v, s', ?_, fun c i h => (e2 c i h).trans (ow c i h), e3⟩
      rw [← e1, nn_pred, f_X12_reads10_L7_s]
      unfold f_X12_reads10_L7_B
      rw [if_neg nq, rm, Option.bind_some, st, Option.bind_some, dv, Option.bind_some, ld, Option.bind_some, cm_n F2, Option.bind_some]
      simp only [lt, if_pos q1, sd_dec]
    · refine ⟨0, hq_si s 211 q (Int32.ofNat (dg q)), ?_, ow, Or.inr ⟨rfl, fun z => q1 (z q (by omega))⟩⟩
      rw [nn_pred, f_X12_reads10_L7_s]
      unfold f_X12_reads10_L7_B
      rw [if_neg nq, rm, Option.bind_some, st, Option.bind_some, dv, Option.bind_some, ld, Option.bind_some, cm_n F2, Option.bind_some]
      simp only [lt, if_neg q1]
theorem dg_e {x q : Nat} (hq : q ≤ g) : x / 10 ^ (g + 1 - (q + 1)) / 10 = x / 10 ^ (g + 1 - q) := by
  rw [Nat.div_div_eq_div_mul, ← Nat.pow_succ, show (g + 1 - (q + 1)).succ = g + 1 - q by omega]
theorem dg_d {x q : Nat} (hq : q ≤ g) : x / 10 ^ (g + 1 - (q + 1)) % 10 = dgs 10 (g + 1) x q := by
  rw [dgs_unit (n := 10) (g + 1 - (q + 1)) (g + 1) x (by omega), show g + 1 - 1 - (g + 1 - (q + 1)) = q by omega]
theorem dg_l {x q : Nat} (hg : g ≤ 3) (hx : x < 10 ^ (g + 1)) : x / 10 ^ (g + 1 - q) < 10000 := Nat.lt_of_le_of_lt (Nat.div_le_self _ _) (Nat.lt_of_lt_of_le hx (p10g hg))
theorem r10 {x : Nat} {s : hq_S} (hN : 100 < N) (hn : n ≤ 10) (hg : g ≤ 3) (hx : x < 10 ^ (g + 1)) (F : cm_F n g nx s) : ∃ v s', f_X12_reads10 N (Int32.ofNat x) s = some (v, s') ∧ (∀ c i, ¬ c = 211 → hq_gi s' c i = hq_gi s c i) ∧ ((v = 1 ∧ cV n g x ∧ ∀ j, j < g + 1 → hq_gi s' 211 j = Int32.ofNat (dgs 10 (g + 1) x j)) ∨ (v = 0 ∧ ¬ cV n g x)) := by
  obtain ⟨v, s', e1, e2⟩ := r10_7 (N := N) (x := x) (a1 := Int32.ofNat x) hn hg (dgs 10 (g + 1) x) (fun q => x / 10 ^ (g + 1 - q)) (fun q => dg_l hg hx) (fun q hq => dg_d hq) (fun q hq => dg_e hq) (g + 1) N s (Nat.le_refl _) (by omega) F (fun j h1 h2 => by omega)
  refine ⟨v, s', ?_, e2⟩
  have e0 : x / 10 ^ (g + 1 - (g + 1)) = x := by rw [Nat.sub_self, Nat.pow_zero, Nat.div_one]
  rw [e0, nn_pred] at e1
  unfold f_X12_reads10
  rw [F.2.1]
  exact e1
theorem ia_2 {p : Nat → Nat} {c : Nat} {s : hq_S} (hg : g ≤ 3) (hp : ∀ j, j < g → p j < 1000) (hc : c < 1000) (F : cm_F n g nx s) (D : ∀ j, j < g → hq_gi s 211 j = Int32.ofNat (p j)) : ∀ (q j m : Nat), j + q = g → q < m → (∀ i, i < j → ¬ p i = c) → ∃ v, f_X12_isAmong_L2 N m (Int32.ofNat c) (Int32.ofNat j) s = some (v, s) ∧ ((v = 1 ∧ ∃ i, i < g ∧ p i = c) ∨ (v = 0 ∧ ¬ ∃ i, i < g ∧ p i = c)) := by
  intro q
  induction q with
  | zero =>
    intro j m hj hm no
    obtain ⟨m, rfl⟩ : ∃ j, m = j + 1 := ⟨m - 1, by omega⟩
    have cc : ¬ Int32.ofNat j < Int32.ofNat g := by rw [nn_lt (by omega) (by omega)]; omega
    exact ⟨0, by simp only [f_X12_isAmong_L2_s, f_X12_isAmong_L2_B, F.2.1, if_neg cc], Or.inr ⟨rfl, fun ⟨i, h1, h2⟩ => no i (by omega) h2⟩⟩
  | succ q ih =>
    intro j m hj hm no
    obtain ⟨m, rfl⟩ : ∃ j, m = j + 1 := ⟨m - 1, by omega⟩
    have cc : Int32.ofNat j < Int32.ofNat g := (nn_lt (by omega) (by omega)).mpr (by omega)
    have ld : hq_ld s 211 4 (Int32.ofNat j) = some (Int32.ofNat (p j)) := by rw [nn_ld (by omega) (by omega), D j (by omega)]
    have eq := nb_eq (show p j < 2147483648 by have := hp j (by omega); omega) (show c < 2147483648 by omega)
    by_cases q1 : p j = c
    · exact ⟨1, by simp only [f_X12_isAmong_L2_s, f_X12_isAmong_L2_B, F.2.1, if_pos cc, ld, Option.bind_some, eq, if_pos q1], Or.inl ⟨rfl, j, by omega, q1⟩⟩
    · obtain ⟨v, v1, v2⟩ := ih (j + 1) m (by omega) (by omega) (fun i hi => by
        by_cases e : i = j
        · rw [e]; exact q1
        · exact no i (by omega))
      refine ⟨v, ?_, v2⟩
      rw [← v1]
      simp only [f_X12_isAmong_L2_s, f_X12_isAmong_L2_B, F.2.1, if_pos cc, ld, Option.bind_some, eq, if_neg q1, nn_succ]
theorem ia {p : Nat → Nat} {c : Nat} {s : hq_S} (hN : 100 < N) (hg : g ≤ 3) (hp : ∀ j, j < g → p j < 1000) (hc : c < 1000) (F : cm_F n g nx s) (D : ∀ j, j < g → hq_gi s 211 j = Int32.ofNat (p j)) : ∃ v, f_X12_isAmong N (Int32.ofNat c) s = some (v, s) ∧ ((v = 1 ∧ ∃ i, i < g ∧ p i = c) ∨ (v = 0 ∧ ¬ ∃ i, i < g ∧ p i = c)) := ia_2 hg hp hc F D g 0 N (by omega) (by omega) (fun i hi => by omega)
theorem cm_go {c : Nat} {s : hq_S} (hc : c < 10) (F : cm_F n g nx s) : f_X12_stayOrGo N (Int32.ofNat c) s = some (Int32.ofNat (tnx nx c), s) := by
  have ld : hq_ld s 206 10 (Int32.ofNat c) = some (Int32.ofNat (nx c)) := by rw [nn_ld (by omega) (by omega), F.1.2 c hc]
  have tj : Int32.ofNat (nx c) ||| ((1 : Int32) <<< (Int32.ofNat c &&& 31)) = Int32.ofNat (tnx nx c) := by rw [nb_one (by omega), nb_or, tnx, if_pos hc]
  simp only [f_X12_stayOrGo, ld, Option.bind_some, tj]
theorem rb_m1 {k x : Nat} {v : Int32} (hk : k < 20000) (h : rb n g (tnx nx) k x v) : v = -1 ↔ ¬ (cV n g x ∧ cL n g (tnx nx) k (dgs 10 (g + 1) x) (dgs 10 (g + 1) x g)) := by
  rcases h with ⟨j, h1, h2, h3, h4⟩ | ⟨h1, h2⟩
  · constructor
    · intro e
      rw [h4] at e
      exact absurd e (sw_m1n (by omega))
    · exact fun e => absurd ⟨h2, cL_le h1 h3.1⟩ e
  · exact ⟨fun _ => h2, fun _ => h1⟩
/-- the code with another last digit, or another digit -/
theorem cd_up {x i c : Nat} (hn : n ≤ 10) (hi : i < g + 1) (hx : x < 10 ^ (g + 1)) (V : cV n g x) (hc : c < n) : enc 10 (pud (dgs 10 (g + 1) x) i c) (g + 1) < 10 ^ (g + 1) ∧ enc 10 (pud (dgs 10 (g + 1) x) i c) (g + 1) + dgs 10 (g + 1) x i * 10 ^ (g - i) = x + c * 10 ^ (g - i) ∧ (∀ j, j < g + 1 → dgs 10 (g + 1) (enc 10 (pud (dgs 10 (g + 1) x) i c) (g + 1)) j = pud (dgs 10 (g + 1) x) i c j) ∧ cV n g (enc 10 (pud (dgs 10 (g + 1) x) i c) (g + 1)) := by
  have pp : ∀ j, j < g + 1 → pud (dgs 10 (g + 1) x) i c j < n := fun j hj => by
    by_cases e : j = i
    · rw [e, pud_i]; exact hc
    · rw [pud_n e]; exact V j hj
  have pp10 : ∀ j, j < g + 1 → pud (dgs 10 (g + 1) x) i c j < 10 := fun j hj => by have := pp j hj; omega
  have e1 := enc_upd (n := 10) (p := dgs 10 (g + 1) x) (i := i) (v := c) (g + 1) hi
  rw [enc_dgs (by omega) (g + 1) x hx, show g + 1 - 1 - i = g - i by omega] at e1
  have e2 := dgs_enc (n := 10) (g + 1) pp10
  exact ⟨enc_lt (g + 1) pp10, e1, e2, fun j hj => by rw [e2 j hj]; exact pp j hj⟩
theorem il_29 {k x : Nat} {s : hq_S} (hN : 100 < N) (hn : n ≤ 10) (hg : g ≤ 3) (hk : k < 20000) (hnx : ∀ c, nx c < 2 ^ n) (hx : x < 10 ^ (g + 1)) (V : cV n g x) (F : cm_F n g nx s) (D : ∀ j, j < g + 1 → hq_gi s 211 j = Int32.ofNat (dgs 10 (g + 1) x j)) (R : ∀ x, x < 10 ^ (g + 1) → rb n g (tnx nx) k x (hq_gi s 208 x)) : ∀ (q c m : Nat), c + q = n → q < m → (∀ c', c' < c → (tnx nx (dgs 10 (g + 1) x g)).testBit c' = true → cL n g (tnx nx) k (dgs 10 (g + 1) x) c') → ∃ v, f_X12_isLost_L29 N m (Int32.ofNat x) (Int32.ofNat (dgs 10 (g + 1) x g)) (Int32.ofNat (tnx nx (dgs 10 (g + 1) x g))) (Int32.ofNat c) s = some (v, s) ∧ ((v = 1 ∧ ∀ c', c' < n → (tnx nx (dgs 10 (g + 1) x g)).testBit c' = true → cL n g (tnx nx) k (dgs 10 (g + 1) x) c') ∨ (v = 0 ∧ ¬ ∀ c', c' < n → (tnx nx (dgs 10 (g + 1) x g)).testBit c' = true → cL n g (tnx nx) k (dgs 10 (g + 1) x) c')) := by
  have p := p10g hg
  have V1 : ∀ j, j < g + 1 → dgs 10 (g + 1) x j < 10 := fun j hj => by have := V j hj; omega
  have tl := tnx_lt hn hnx (dgs 10 (g + 1) x g)
  intro q
  induction q with
  | zero =>
    intro c m hc hm al
    obtain ⟨m, rfl⟩ : ∃ j, m = j + 1 := ⟨m - 1, by omega⟩
    have cc : ¬ Int32.ofNat c < Int32.ofNat n := by rw [nn_lt (by omega) (by omega)]; omega
    exact ⟨1, by simp only [f_X12_isLost_L29_s, f_X12_isLost_L29_B, cm_n F, Option.bind_some, if_neg cc], Or.inl ⟨rfl, fun c' hc' => al c' (by omega)⟩⟩
  | succ q ih =>
    intro c m hc hm al
    obtain ⟨m, rfl⟩ : ∃ j, m = j + 1 := ⟨m - 1, by omega⟩
    have cc : Int32.ofNat c < Int32.ofNat n := (nn_lt (by omega) (by omega)).mpr (by omega)
    have b1 := nb_bit1 (show tnx nx (dgs 10 (g + 1) x g) < 2147483648 by omega) (show c < 32 by omega)
    have nxt : ((tnx nx (dgs 10 (g + 1) x g)).testBit c = true → cL n g (tnx nx) k (dgs 10 (g + 1) x) c) → ∃ v, f_X12_isLost_J76 N (f_X12_isLost_L29 N m) (Int32.ofNat x) (Int32.ofNat (dgs 10 (g + 1) x g)) (Int32.ofNat (tnx nx (dgs 10 (g + 1) x g))) (Int32.ofNat c) s = some (v, s) ∧ ((v = 1 ∧ ∀ c', c' < n → (tnx nx (dgs 10 (g + 1) x g)).testBit c' = true → cL n g (tnx nx) k (dgs 10 (g + 1) x) c') ∨ (v = 0 ∧ ¬ ∀ c', c' < n → (tnx nx (dgs 10 (g + 1) x g)).testBit c' = true → cL n g (tnx nx) k (dgs 10 (g + 1) x) c')) := fun h => by
      obtain ⟨v, v1, v2⟩ := ih (c + 1) m (by omega) (by omega) (fun c' hc' => by
        by_cases e : c' = c
        · rw [e]; exact h
        · exact al c' (by omega))
      exact ⟨v, by rw [← v1]; simp only [f_X12_isLost_J76, nn_succ], v2⟩
    by_cases q1 : (tnx nx (dgs 10 (g + 1) x g)).testBit c = true
    · obtain ⟨w, w1, w2⟩ := ia (N := N) (p := dgs 10 (g + 1) x) (c := c) hN hg (fun j hj => by have := V1 j (by omega); omega) (by omega) F (fun j hj => D j (by omega))
      rcases w2 with ⟨rfl, w2⟩ | ⟨rfl, w2⟩
      · have d10 : ¬ (1 : Int32) = 0 := by decide
        obtain ⟨v, v1, v2⟩ := nxt (fun _ => cL_le (Nat.zero_le k) w2)
        refine ⟨v, ?_, v2⟩
        rw [← v1]
        simp only [f_X12_isLost_L29_s, f_X12_isLost_L29_B, cm_n F, Option.bind_some, if_pos cc, b1, if_pos q1, w1, if_neg d10]
      · obtain ⟨u1, u2, u3, u4⟩ := cd_up (i := g) hn (by omega) hx V (show c < n by omega)
        rw [Nat.sub_self, Nat.pow_zero, Nat.mul_one, Nat.mul_one] at u2
        generalize hy : enc 10 (pud (dgs 10 (g + 1) x) g c) (g + 1) = y at u1 u2 u3 u4
        have ix : (Int32.ofNat x - Int32.ofNat (dgs 10 (g + 1) x g)) + Int32.ofNat c = Int32.ofNat y := by
          have h := i32_ix (r := x) (r' := y) (a := dgs 10 (g + 1) x g) (t := c) (u := 1) (by omega)
          rw [← h]
          generalize Int32.ofNat x = A
          generalize Int32.ofNat (dgs 10 (g + 1) x g) = C
          generalize Int32.ofNat c = E
          have o : Int32.ofNat 1 = 1 := rfl
          rw [o]
          grind
        have ld : hq_ld s 208 10000 (Int32.ofNat y) = some (hq_gi s 208 y) := nn_ld (by omega) (by omega)
        have t := rb_m1 hk (R y u1)
        have e1 : dgs 10 (g + 1) y g = c := by rw [u3 g (by omega), pud_i]
        have e2 : cL n g (tnx nx) k (dgs 10 (g + 1) y) (dgs 10 (g + 1) y g) ↔ cL n g (tnx nx) k (dgs 10 (g + 1) x) c := by
          rw [e1]
          exact cL_cg (fun j hj => by rw [u3 j (by omega), pud_n (by omega)]) k c
        by_cases q2 : hq_gi s 208 y = -1
        · have no : ¬ cL n g (tnx nx) k (dgs 10 (g + 1) x) c := fun z => t.mp q2 ⟨u4, e2.mpr z⟩
          exact ⟨0, by simp only [f_X12_isLost_L29_s, f_X12_isLost_L29_B, cm_n F, Option.bind_some, if_pos cc, b1, if_pos q1, w1, if_true, ix, ld, if_pos q2], Or.inr ⟨rfl, fun z => no (z c (by omega) q1)⟩⟩
        · have yes : cL n g (tnx nx) k (dgs 10 (g + 1) x) c := Classical.byContradiction fun z => q2 (t.mpr fun w => z (e2.mp w.2))
          obtain ⟨v, v1, v2⟩ := nxt (fun _ => yes)
          refine ⟨v, ?_, v2⟩
          rw [← v1]
          simp only [f_X12_isLost_L29_s, f_X12_isLost_L29_B, cm_n F, Option.bind_some, if_pos cc, b1, if_pos q1, w1, if_true, ix, ld, if_neg q2]
    · obtain ⟨v, v1, v2⟩ := nxt (fun z => absurd z q1)
      refine ⟨v, ?_, v2⟩
      rw [← v1]
      simp only [f_X12_isLost_L29_s, f_X12_isLost_L29_B, cm_n F, Option.bind_some, if_pos cc, b1, if_neg q1]
theorem il {k x : Nat} {s : hq_S} (hN : 100 < N) (hn : n ≤ 10) (hg : g ≤ 3) (hk : k < 20000) (hnx : ∀ c, nx c < 2 ^ n) (hx : x < 10 ^ (g + 1)) (V : cV n g x) (F : cm_F n g nx s) (D : ∀ j, j < g + 1 → hq_gi s 211 j = Int32.ofNat (dgs 10 (g + 1) x j)) (R : ∀ x, x < 10 ^ (g + 1) → rb n g (tnx nx) k x (hq_gi s 208 x)) : ∃ v, f_X12_isLost N (Int32.ofNat x) s = some (v, s) ∧ ((v = 1 ∧ cT n g (tnx nx) k (dgs 10 (g + 1) x) (dgs 10 (g + 1) x g)) ∨ (v = 0 ∧ ¬ cT n g (tnx nx) k (dgs 10 (g + 1) x) (dgs 10 (g + 1) x g))) := by
  have V1 : ∀ j, j < g + 1 → dgs 10 (g + 1) x j < 10 := fun j hj => by have := V j hj; omega
  have ld : hq_ld s 211 4 (hq_gi s 174 60) = some (Int32.ofNat (dgs 10 (g + 1) x g)) := by rw [F.2.1, nn_ld (by omega) (by omega), D g (by omega)]
  obtain ⟨w, w1, w2⟩ := ia (N := N) (p := dgs 10 (g + 1) x) (c := dgs 10 (g + 1) x g) hN hg (fun j hj => by have := V1 j (by omega); omega) (by have := V1 g (by omega); omega) F (fun j hj => D j (by omega))
  rcases w2 with ⟨rfl, w2⟩ | ⟨rfl, w2⟩
  · have d10 : ¬ (1 : Int32) = 0 := by decide
    exact ⟨1, by simp only [f_X12_isLost, ld, w1, Option.bind_some, if_neg d10], Or.inl ⟨rfl, Or.inl w2⟩⟩
  · have go := cm_go (N := N) (V1 g (by omega)) F
    obtain ⟨v, v1, v2⟩ := il_29 (N := N) hN hn hg hk hnx hx V F D R n 0 N (by omega) (by omega) (fun c' hc' => by omega)
    have v1 : f_X12_isLost_L29 N N (Int32.ofNat x) (Int32.ofNat (dgs 10 (g + 1) x g)) (Int32.ofNat (tnx nx (dgs 10 (g + 1) x g))) 0 s = some (v, s) := v1
    refine ⟨v, by simp only [f_X12_isLost, ld, w1, Option.bind_some, if_true, go, v1], ?_⟩
    rcases v2 with ⟨rfl, v2⟩ | ⟨rfl, v2⟩
    · exact Or.inl ⟨rfl, Or.inr v2⟩
    · exact Or.inr ⟨rfl, fun z => z.elim w2 v2⟩
end
