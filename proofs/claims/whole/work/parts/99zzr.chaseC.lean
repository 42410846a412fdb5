/-! FIRST GO: the class's first row -/
def cTE (n g : Nat) (tn : Nat → Nat) (k : Nat) (p : Nat → Nat) (c : Nat) : Prop := cT n g tn k p c ∧ ∀ i, i < k → ¬ cT n g tn i p c
section
variable {N n g : Nat} {nx tn : Nat → Nat}
theorem cTE_cg {p q : Nat → Nat} {k c : Nat} (h : ∀ j, j < g → p j = q j) : cTE n g tn k p c ↔ cTE n g tn k q c := by
  unfold cTE
  simp only [cT_cg h]
theorem cTE_eq {p : Nat → Nat} {i j c : Nat} (h1 : cTE n g tn i p c) (h2 : cTE n g tn j p c) : i = j := by
  by_cases a : i < j
  · exact absurd h1.1 (h2.2 i a)
  · by_cases b : j < i
    · exact absurd h2.1 (h1.2 j b)
    · omega
theorem enc_lex {q q' : Nat → Nat} {j : Nat} : ∀ g, j < g → (∀ i, i < j → q i = q' i) → q j < q' j → (∀ i, i < g → q i < n) → enc n q g < enc n q' g
  | 0, h, _, _, _ => by omega
  | g + 1, h, h1, h2, h3 => by
    rw [enc, enc]
    by_cases e : j = g
    · rw [e] at h1 h2
      rw [enc_cg g h1]
      omega
    · have ih := enc_lex g (by omega) h1 h2 (fun i hi => h3 i (by omega))
      have hg := h3 g (by omega)
      have : (enc n q g + 1) * n ≤ enc n q' g * n := Nat.mul_le_mul_right n ih
      rw [Nat.add_mul] at this
      omega
/-- the safest corner: none is later -/
theorem sf_8 {c : Nat} {p : Nat → Nat} {s : hq_S} (hn : n ≤ 10) (hnx : ∀ c, nx c < 2 ^ n) (B : cB n g (tnx nx)) (F : cx_F n g (tnx nx) s) (hp : ∀ j, j < g → p j < n) (hc : c < n) (hv : ∀ d, d < n → (-1 : Int32) < hq_gi s 158 (enc n p g * n + d)) : ∀ (q d m : Nat) (be xm : Int32), d + q = n → q < m → ((xm = -1 ∧ ∀ c', c' < d → ¬ (tnx nx c).testBit c' = true) ∨ ∃ b, b < n ∧ be = Int32.ofNat b ∧ (tnx nx c).testBit b = true ∧ xm = hq_gi s 158 (enc n p g * n + b) ∧ ∀ c', c' < d → (tnx nx c).testBit c' = true → ¬ xm < hq_gi s 158 (enc n p g * n + c')) → ∃ b, b < n ∧ f_X0_safest_L8 N m (Int32.ofNat (enc n p g)) (Int32.ofNat c) be xm (Int32.ofNat d) s = some (Int32.ofNat b, s) ∧ (tnx nx c).testBit b = true ∧ ∀ c', c' < n → (tnx nx c).testBit c' = true → ¬ hq_gi s 158 (enc n p g * n + b) < hq_gi s 158 (enc n p g * n + c') := by
  have tl := tnx_lt hn hnx c
  have t1 : hq_ld s 153 10 (Int32.ofNat c) = some (Int32.ofNat (tnx nx c)) := by rw [nn_ld (by omega) (by omega), F.2.2.2 c (by omega)]
  have self : (tnx nx c).testBit c = true := by rw [tnx, if_pos (by omega), Nat.testBit_or, nb_2p, decide_eq_true rfl, Bool.or_true]
  intro q
  induction q with
  | zero =>
    intro d m be xm hd hm st
    obtain ⟨m, rfl⟩ : ∃ j, m = j + 1 := ⟨m - 1, by omega⟩
    have cc : ¬ Int32.ofNat d < Int32.ofNat n := by rw [nn_lt (by omega) (by omega)]; omega
    rcases st with ⟨-, no⟩ | ⟨b, b1, rfl, b2, rfl, b3⟩
    · exact absurd self (no c (by omega))
    · refine ⟨b, b1, ?_, b2, fun c' hc' => b3 c' (by omega)⟩
      rw [f_X0_safest_L8_s]
      unfold f_X0_safest_L8_B
      rw [F.1, if_neg cc]
  | succ q ih =>
    intro d m be xm hd hm st
    obtain ⟨m, rfl⟩ : ∃ j, m = j + 1 := ⟨m - 1, by omega⟩
    have cc : Int32.ofNat d < Int32.ofNat n := (nn_lt (by omega) (by omega)).mpr (by omega)
    have rf := rf_all (N := N) (p := p) B hp (show d < n by omega) F.1
    by_cases q1 : (tnx nx c).testBit d = true
    · have x1 : ((Int32.ofNat (tnx nx c) >>> (Int32.ofNat d &&& 31)) &&& (1 : Int32)) = 1 := by rw [nb_bit1 (by omega) (by omega)]; exact q1
      have stepX : f_X0_safest_L8 N (m + 1) (Int32.ofNat (enc n p g)) (Int32.ofNat c) be xm (Int32.ofNat d) s = if xm < hq_gi s 158 (enc n p g * n + d) then f_X0_safest_L8 N m (Int32.ofNat (enc n p g)) (Int32.ofNat c) (Int32.ofNat d) (hq_gi s 158 (enc n p g * n + d)) (Int32.ofNat (d + 1)) s else f_X0_safest_L8 N m (Int32.ofNat (enc n p g)) (Int32.ofNat c) be xm (Int32.ofNat (d + 1)) s := by
        rw [f_X0_safest_L8_s]
        unfold f_X0_safest_L8_B
        rw [F.1, if_pos cc, t1, Option.bind_some, if_pos x1, rf, Option.bind_some, nn_succ]
        by_cases z : xm < hq_gi s 158 (enc n p g * n + d)
        · rw [if_pos z, if_pos z, rf, Option.bind_some, Option.bind_some]
        · rw [if_neg z, if_neg z, Option.bind_some]
      rw [stepX]
      have ltt : ∀ x y z : Int32, ¬ x < y → x < z → ¬ z < y := fun x y z h1 h2 h3 => h1 (by
        rw [Int32.lt_iff_toInt_lt] at h2 h3 ⊢
        omega)
      have irr : ∀ x : Int32, ¬ x < x := fun x h => by rw [Int32.lt_iff_toInt_lt] at h; omega
      rcases st with ⟨rfl, no⟩ | ⟨b, b1, rfl, b2, b3, b4⟩
      · rw [if_pos (hv d (by omega))]
        exact ih (d + 1) m _ _ (by omega) (by omega) (Or.inr ⟨d, by omega, rfl, q1, rfl, fun c' hc' hb => by
          by_cases e : c' = d
          · rw [e]; exact irr _
          · exact absurd hb (no c' (by omega))⟩)
      · by_cases z : xm < hq_gi s 158 (enc n p g * n + d)
        · rw [if_pos z]
          exact ih (d + 1) m _ _ (by omega) (by omega) (Or.inr ⟨d, by omega, rfl, q1, rfl, fun c' hc' hb => by
            by_cases e : c' = d
            · rw [e]; exact irr _
            · exact ltt _ _ _ (b4 c' (by omega) hb) z⟩)
        · rw [if_neg z]
          exact ih (d + 1) m _ _ (by omega) (by omega) (Or.inr ⟨b, b1, rfl, b2, b3, fun c' hc' hb => by
            by_cases e : c' = d
            · rw [e]; exact z
            · exact b4 c' (by omega) hb⟩)
    · have x1 : ¬ ((Int32.ofNat (tnx nx c) >>> (Int32.ofNat d &&& 31)) &&& (1 : Int32)) = 1 := by rw [nb_bit1 (by omega) (by omega)]; exact q1
      obtain ⟨b, h1, h2, h3⟩ := ih (d + 1) m be xm (by omega) (by omega) (by
        rcases st with ⟨h1, h2⟩ | ⟨b, b1, b2, b3, b4, b5⟩
        · refine Or.inl ⟨h1, fun c' hc' => ?_⟩
          by_cases e : c' = d
          · rw [e]; exact q1
          · exact h2 c' (by omega)
        · refine Or.inr ⟨b, b1, b2, b3, b4, fun c' hc' hb => ?_⟩
          by_cases e : c' = d
          · rw [e] at hb; exact absurd hb q1
          · exact b5 c' (by omega) hb)
      refine ⟨b, h1, ?_, h3⟩
      rw [← h2, f_X0_safest_L8_s]
      unfold f_X0_safest_L8_B
      rw [F.1, if_pos cc, t1, Option.bind_some, if_neg x1, Option.bind_some, nn_succ]
/-- in how many rounds when it is his turn -/
theorem ot_all {K c : Nat} {p : Nat → Nat} {s : hq_S} (hN : 100 < N) (hnx : ∀ c, nx c < 2 ^ n) (hK : K < 20000) (B : cB n g (tnx nx)) (S : cS n g (tnx nx) K s) (Fx : cF n g (tnx nx) K) (hp : ∀ j, j < g → p j < n) (hc : c < n) : ∃ x, f_X0_roundsOnTurn N (Int32.ofNat (enc n p g)) (Int32.ofNat c) s = some (x, s) ∧ ((∃ k, k < 20000 ∧ cTE n g (tnx nx) k p c ∧ x = Int32.ofNat k) ∨ (x = 2147483647 ∧ ∀ i, ¬ cT n g (tnx nx) i p c)) := by
  have hn := B.2.1
  have val : ∀ d, d < n → (∃ j, j ≤ K ∧ cE n g (tnx nx) j p d ∧ hq_gi s 158 (enc n p g * n + d) = Int32.ofNat j) ∨ (hq_gi s 158 (enc n p g * n + d) = 2147483647 ∧ ∀ i, ¬ cL n g (tnx nx) i p d) := fun d hd => (cS_v B S Fx hp hd).2.2
  have rf := rf_all (N := N) (p := p) B hp hc S.1.1
  by_cases q0 : hq_gi s 158 (enc n p g * n + c) = 0
  · refine ⟨0, ?_, Or.inl ⟨0, by omega, ⟨?_, fun i hi => by omega⟩, rfl⟩⟩
    · unfold f_X0_roundsOnTurn
      rw [rf, Option.bind_some, if_pos q0]
    · rcases val c hc with ⟨j, j1, j2, j3⟩ | ⟨j1, -⟩
      · rw [j3, nb_eq0 (by omega)] at q0
        rw [q0] at j2
        exact Or.inl j2.1
      · rw [j1] at q0
        exact absurd q0 (by decide)
  · have nat : ¬ ∃ j, j < g ∧ p j = c := fun h => by
      rcases val c hc with ⟨j, j1, j2, j3⟩ | ⟨-, j2⟩
      · have : j = 0 := by
          by_cases z : j = 0
          · exact z
          · exact absurd h (j2.2 0 (by omega))
        rw [j3, this] at q0
        exact q0 rfl
      · exact absurd h (j2 0)
    obtain ⟨b, b1, b2, b3, b4⟩ := sf_8 (N := N) hn hnx B S.1 hp hc (fun d hd => by
      rcases val d hd with ⟨j, j1, -, j3⟩ | ⟨j1, -⟩
      · rw [j3, Int32.lt_iff_toInt_lt, nn_toInt (by omega)]
        have z : (-1 : Int32).toInt = -1 := by decide
        rw [z]; omega
      · rw [j1]; decide) n 0 N (Int32.ofNat c) (-1) (by omega) (by omega) (Or.inl ⟨rfl, fun c' h => by omega⟩)
    have b2 : f_X0_safest_L8 N N (Int32.ofNat (enc n p g)) (Int32.ofNat c) (Int32.ofNat c) (-1) 0 s = some (Int32.ofNat b, s) := b2
    have rfb := rf_all (N := N) (p := p) B hp b1 S.1.1
    refine ⟨hq_gi s 158 (enc n p g * n + b), ?_, ?_⟩
    · unfold f_X0_roundsOnTurn f_X0_safest
      rw [rf, Option.bind_some, if_neg q0, b2, Option.bind_some, rfb, Option.bind_some]
    · rcases val b b1 with ⟨k, k1, k2, k3⟩ | ⟨k1, k2⟩
      · refine Or.inl ⟨k, by omega, ⟨Or.inr fun c' hc' hb => ?_, fun i hi z => ?_⟩, k3⟩
        · have h := b4 c' hc' hb
          rw [k3] at h
          rcases val c' hc' with ⟨j, j1, j2, j3⟩ | ⟨j1, -⟩
          · rw [j3, nn_lt (by omega) (by omega)] at h
            exact cL_le (by omega) j2.1
          · rw [j1] at h
            exact absurd (mx_n (by omega)).2.1 h
        · rcases z with z | z
          · exact nat z
          · exact k2.2 i hi (z b b1 b3)
      · refine Or.inr ⟨k1, fun i z => ?_⟩
        rcases z with z | z
        · exact nat z
        · exact k2 i (z b b1 b3)
/-- a corner of a row -/
theorem ci_all {b r : Nat} {s : hq_S} (hN : 100 < N) (h1 : 1 ≤ n) (hn : n ≤ 10) (hb : b < g) (hg : g ≤ 3) (hr : r < 10000) (h0 : hq_gi s 152 0 = Int32.ofNat n) : f_X0_cornerIn N (Int32.ofNat r) (Int32.ofNat b) s = some (Int32.ofNat (dgs n g r (g - 1 - b)), s) := by
  have c1 : ¬ Int32.ofNat n < (1 : Int32) := by rw [nb_lit 1, nn_lt (by omega) (by omega)]; omega
  have key : ∀ (q k m : Nat), k + q = b → q < m → f_X0_cornerIn_L15 N m (Int32.ofNat r) (Int32.ofNat b) (Int32.ofNat (r / n ^ k)) (Int32.ofNat k) s = some (Int32.ofNat (dgs n g r (g - 1 - b)), s) := by
    intro q
    induction q with
    | zero =>
      intro k m hk hm
      obtain ⟨m, rfl⟩ : ∃ j, m = j + 1 := ⟨m - 1, by omega⟩
      have cc : ¬ Int32.ofNat k < Int32.ofNat b := by rw [nn_lt (by omega) (by omega)]; omega
      have d1 : r / n ^ k ≤ r := Nat.div_le_self _ _
      have rm : hq_irem (Int32.ofNat (r / n ^ k)) (Int32.ofNat n) = some (Int32.ofNat (dgs n g r (g - 1 - b))) := by rw [nb_rem (by omega) (by omega) (by omega), show k = b by omega, dgs_unit b g r hb]
      rw [f_X0_cornerIn_L15_s]
      unfold f_X0_cornerIn_L15_B
      rw [if_neg cc, h0, rm, Option.bind_some]
    | succ q ih =>
      intro k m hk hm
      obtain ⟨m, rfl⟩ : ∃ j, m = j + 1 := ⟨m - 1, by omega⟩
      have cc : Int32.ofNat k < Int32.ofNat b := (nn_lt (by omega) (by omega)).mpr (by omega)
      have d1 : r / n ^ k ≤ r := Nat.div_le_self _ _
      have dv : hq_idiv (Int32.ofNat (r / n ^ k)) (Int32.ofNat n) = some (Int32.ofNat (r / n ^ (k + 1))) := by rw [nb_div (by omega) (by omega) (by omega), Nat.div_div_eq_div_mul, ← Nat.pow_succ]
      rw [← ih (k + 1) m (by omega) (by omega), f_X0_cornerIn_L15_s]
      unfold f_X0_cornerIn_L15_B
      rw [if_pos cc, h0, dv, Option.bind_some, nn_succ]
  have k0 := key b 0 N (by omega) (by omega)
  rw [Nat.pow_zero, Nat.div_one] at k0
  unfold f_X0_cornerIn
  rw [h0, if_neg c1]
  exact k0
theorem it_2 {r r' : Nat} {s : hq_S} (hN : 100 < N) (hnx : ∀ c, nx c < 2 ^ n) (B : cB n g (tnx nx)) (F : cx_F n g (tnx nx) s) (hr : r < 10000) (hr' : r' < 10000) : ∀ (q b m : Nat), b + q = g → q < m → (∀ b', b' < b → (tnx nx (dgs n g r (g - 1 - b'))).testBit (dgs n g r' (g - 1 - b')) = true) → ∃ v, f_X0_isTurn_L2 N m (Int32.ofNat r) (Int32.ofNat r') (Int32.ofNat b) s = some (v, s) ∧ ((v = 1 ∧ ∀ j, j < g → (tnx nx (dgs n g r j)).testBit (dgs n g r' j) = true) ∨ (v = 0 ∧ ¬ ∀ j, j < g → (tnx nx (dgs n g r j)).testBit (dgs n g r' j) = true)) := by
  obtain ⟨h1, hn, -, hg, -⟩ := B
  intro q
  induction q with
  | zero =>
    intro b m hb hm al
    obtain ⟨m, rfl⟩ : ∃ j, m = j + 1 := ⟨m - 1, by omega⟩
    have cc : ¬ Int32.ofNat b < Int32.ofNat g := by rw [nn_lt (by omega) (by omega)]; omega
    refine ⟨1, ?_, Or.inl ⟨rfl, fun j hj => ?_⟩⟩
    · rw [f_X0_isTurn_L2_s]
      unfold f_X0_isTurn_L2_B
      rw [F.2.1, if_neg cc]
    · have := al (g - 1 - j) (by omega)
      rw [show g - 1 - (g - 1 - j) = j by omega] at this
      exact this
  | succ q ih =>
    intro b m hb hm al
    obtain ⟨m, rfl⟩ : ∃ j, m = j + 1 := ⟨m - 1, by omega⟩
    have cc : Int32.ofNat b < Int32.ofNat g := (nn_lt (by omega) (by omega)).mpr (by omega)
    have c1 := ci_all (N := N) (b := b) (g := g) (r := r) hN h1 hn (by omega) hg hr F.1
    have c2 := ci_all (N := N) (b := b) (g := g) (r := r') hN h1 hn (by omega) hg hr' F.1
    have l1 : dgs n g r (g - 1 - b) < n := dgs_lt (by omega) _ _ _ (by omega)
    have l2 : dgs n g r' (g - 1 - b) < n := dgs_lt (by omega) _ _ _ (by omega)
    have tl := tnx_lt hn hnx (dgs n g r (g - 1 - b))
    have ld : hq_ld s 153 10 (Int32.ofNat (dgs n g r (g - 1 - b))) = some (Int32.ofNat (tnx nx (dgs n g r (g - 1 - b)))) := by rw [nn_ld (by omega) (by omega), F.2.2.2 _ (by omega)]
    have b0 := nb_bit0 (show tnx nx (dgs n g r (g - 1 - b)) < 2147483648 by omega) (show dgs n g r' (g - 1 - b) < 32 by omega)
    by_cases q1 : (tnx nx (dgs n g r (g - 1 - b))).testBit (dgs n g r' (g - 1 - b)) = true
    · have z : ¬ ((Int32.ofNat (tnx nx (dgs n g r (g - 1 - b))) >>> (Int32.ofNat (dgs n g r' (g - 1 - b)) &&& 31)) &&& (1 : Int32)) = 0 := by rw [b0, q1]; decide
      obtain ⟨v, v1, v2⟩ := ih (b + 1) m (by omega) (by omega) (fun b' hb' => by
        by_cases e : b' = b
        · rw [e]; exact q1
        · exact al b' (by omega))
      refine ⟨v, ?_, v2⟩
      rw [← v1, f_X0_isTurn_L2_s]
      unfold f_X0_isTurn_L2_B
      rw [F.2.1, if_pos cc, c1, Option.bind_some, ld, Option.bind_some, c2, Option.bind_some, if_neg z, nn_succ]
    · have z : ((Int32.ofNat (tnx nx (dgs n g r (g - 1 - b))) >>> (Int32.ofNat (dgs n g r' (g - 1 - b)) &&& 31)) &&& (1 : Int32)) = 0 := by
        rw [b0]
        cases w : (tnx nx (dgs n g r (g - 1 - b))).testBit (dgs n g r' (g - 1 - b)) with
        | true => exact absurd w q1
        | false => rfl
      refine ⟨0, ?_, Or.inr ⟨rfl, fun h => q1 (h (g - 1 - b) (by omega))⟩⟩
      rw [f_X0_isTurn_L2_s]
      unfold f_X0_isTurn_L2_B
      rw [F.2.1, if_pos cc, c1, Option.bind_some, ld, Option.bind_some, c2, Option.bind_some, if_pos z]
/-- rows to which the guards may go so that he is taken then -/
def cRw (n g : Nat) (nx : Nat → Nat) (k : Nat) (p : Nat → Nat) (c : Nat) (q : Nat → Nat) : Prop := (∀ j, j < g → q j < n ∧ (tnx nx (p j)).testBit (q j) = true) ∧ cTE n g (tnx nx) k q c
theorem cRw_cg {k c : Nat} {p q q' : Nat → Nat} (h : ∀ j, j < g → q j = q' j) : cRw n g nx k p c q ↔ cRw n g nx k p c q' := by
  unfold cRw
  rw [cTE_cg h]
  exact ⟨fun z => ⟨fun j hj => by rw [← h j hj]; exact z.1 j hj, z.2⟩, fun z => ⟨fun j hj => by rw [h j hj]; exact z.1 j hj, z.2⟩⟩
theorem fr_12 {K k c : Nat} {p : Nat → Nat} {s : hq_S} (hN : 100 < N) (hnx : ∀ c, nx c < 2 ^ n) (hK : K < 20000) (hk : k < 20000) (B : cB n g (tnx nx)) (S : cS n g (tnx nx) K s) (Fx : cF n g (tnx nx) K) (hp : ∀ j, j < g → p j < n) (hc : c < n) (ex : ∃ q, cRw n g nx k p c q) : ∀ (q r m : Nat), r + q = n ^ g → q < m → (∀ r', r' < r → ¬ cRw n g nx k p c (dgs n g r')) → ∃ r, r < n ^ g ∧ f_X0_firstRow_L12 N m (Int32.ofNat (enc n p g)) (Int32.ofNat c) (Int32.ofNat k) (Int32.ofNat (n ^ g - q)) s = some (Int32.ofNat r, s) ∧ cRw n g nx k p c (dgs n g r) ∧ ∀ r', r' < r → ¬ cRw n g nx k p c (dgs n g r') := by
  have hM := cB_M B
  have n1 := B.1
  have el := enc_lt g hp
  have dp := dgs_enc g hp
  intro q
  induction q with
  | zero =>
    intro r m hr hm no
    obtain ⟨q, h1⟩ := ex
    have hq : ∀ j, j < g → q j < n := fun j hj => (h1.1 j hj).1
    exact absurd ((cRw_cg (dgs_enc g hq)).mpr h1) (no (enc n q g) (by have := enc_lt g hq; omega))
  | succ q ih =>
    intro r m hr hm no
    obtain ⟨m, rfl⟩ : ∃ j, m = j + 1 := ⟨m - 1, by omega⟩
    have er : n ^ g - (q + 1) = r := by omega
    rw [er]
    have cc : Int32.ofNat r < Int32.ofNat (n ^ g) := (nn_lt (by omega) (by omega)).mpr (by omega)
    obtain ⟨v, v1, v2⟩ := it_2 (N := N) (r := enc n p g) (r' := r) hN hnx B S.1 (by omega) (by omega) g 0 N (by omega) (by have := B.2.2.2.1; omega) (fun b h => by omega)
    have v1 : f_X0_isTurn_L2 N N (Int32.ofNat (enc n p g)) (Int32.ofNat r) 0 s = some (v, s) := v1
    have pos : ∀ j, j < g → dgs n g r j < n := fun j hj => dgs_lt (by omega) g r j hj
    have J : (¬ cRw n g nx k p c (dgs n g r)) → ∃ r, r < n ^ g ∧ f_X0_firstRow_J45 N (f_X0_firstRow_L12 N m) (Int32.ofNat (enc n p g)) (Int32.ofNat c) (Int32.ofNat k) (Int32.ofNat (n ^ g - (q + 1))) s = some (Int32.ofNat r, s) ∧ cRw n g nx k p c (dgs n g r) ∧ ∀ r', r' < r → ¬ cRw n g nx k p c (dgs n g r') := fun hno => by
      obtain ⟨r2, a1, a2, a3⟩ := ih (r + 1) m (by omega) (by omega) (fun r' hr' => by
        by_cases e : r' = r
        · rw [e]; exact hno
        · exact no r' (by omega))
      refine ⟨r2, a1, ?_, a3⟩
      rw [← a2]
      unfold f_X0_firstRow_J45
      rw [nn_succ, show n ^ g - (q + 1) + 1 = n ^ g - q by omega]
    rw [er] at J
    rcases v2 with ⟨rfl, v2⟩ | ⟨rfl, v2⟩
    · have d10 : ¬ (1 : Int32) = 0 := by decide
      have turn : ∀ j, j < g → dgs n g r j < n ∧ (tnx nx (p j)).testBit (dgs n g r j) = true := fun j hj => ⟨pos j hj, by have := v2 j hj; rw [dp j hj] at this; exact this⟩
      obtain ⟨x, x1, x2⟩ := ot_all (N := N) (p := dgs n g r) (c := c) hN hnx hK B S Fx pos hc
      rw [enc_dgs (by omega) g r (by omega)] at x1
      have test : x = Int32.ofNat k ↔ cTE n g (tnx nx) k (dgs n g r) c := by
        rcases x2 with ⟨i, i1, i2, rfl⟩ | ⟨rfl, i2⟩
        · rw [nn_inj (by omega) (by omega)]
          exact ⟨fun e => e ▸ i2, fun e => cTE_eq i2 e⟩
        · exact ⟨fun e => absurd e.symm (mx_n hk).1, fun e => absurd e.1 (i2 k)⟩
      by_cases z : x = Int32.ofNat k
      · refine ⟨r, by omega, ?_, ⟨turn, test.mp z⟩, no⟩
        rw [f_X0_firstRow_L12_s]
        unfold f_X0_firstRow_L12_B f_X0_isTurn
        rw [S.1.2.2.1, if_pos cc, v1, Option.bind_some, if_neg d10, x1, Option.bind_some, if_pos z]
      · obtain ⟨r2, a1, a2, a3⟩ := J (fun w => z (test.mpr w.2))
        refine ⟨r2, a1, ?_, a3⟩
        rw [← a2, f_X0_firstRow_L12_s]
        unfold f_X0_firstRow_L12_B f_X0_isTurn
        rw [S.1.2.2.1, if_pos cc, v1, Option.bind_some, if_neg d10, x1, Option.bind_some, if_neg z]
    · obtain ⟨r2, a1, a2, a3⟩ := J (fun w => v2 fun j hj => by rw [dp j hj]; exact (w.1 j hj).2)
      refine ⟨r2, a1, ?_, a3⟩
      rw [← a2, f_X0_firstRow_L12_s]
      unfold f_X0_firstRow_L12_B f_X0_isTurn
      rw [S.1.2.2.1, if_pos cc, v1, Option.bind_some, if_pos rfl]
end
