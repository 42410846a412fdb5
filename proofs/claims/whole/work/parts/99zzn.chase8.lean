/-! WHO CHASES -/
def gs (G : Nat) : Nat → Nat → Nat
  | 0, _ => 0
  | i + 1, j => if G.testBit i = true ∧ j = nb_pop G i then i else gs G i j
theorem gs_lt {G : Nat} : ∀ i j, j < nb_pop G i → gs G i j < i
  | 0, j, h => by rw [nb_pop] at h; omega
  | i + 1, j, h => by
    rw [nb_pop] at h
    rw [gs]
    by_cases q : G.testBit i = true
    · rw [if_pos q] at h
      by_cases e : j = nb_pop G i
      · rw [if_pos ⟨q, e⟩]; omega
      · rw [if_neg (fun z => e z.2)]
        have := gs_lt (G := G) i j (by omega)
        omega
    · rw [if_neg q] at h
      rw [if_neg (fun z => q z.1)]
      have := gs_lt (G := G) i j (by omega)
      omega
theorem gs_keep {G i j : Nat} (h : j < nb_pop G i) : gs G (i + 1) j = gs G i j := by rw [gs, if_neg (fun z => by omega)]
theorem gs_new {G i : Nat} (h : G.testBit i = true) : gs G (i + 1) (nb_pop G i) = i := by rw [gs, if_pos ⟨h, rfl⟩]
theorem nb_pop_eq {a k : Nat} (ha : a < 2 ^ k) : ∀ m, k ≤ m → nb_pop a m = nb_pop a k
  | 0, h => by rw [show k = 0 by omega]
  | m + 1, h => by
    by_cases e : k = m + 1
    · rw [e]
    · rw [nb_pop, Nat.testBit_lt_two_pow (Nat.lt_of_lt_of_le ha (Nat.pow_le_pow_right (by omega) (by omega))), if_neg (by decide)]
      exact nb_pop_eq ha m (by omega)
theorem nb_pop_pos {a k : Nat} (ha : a < 2 ^ k) (h : ¬ a = 0) : 1 ≤ nb_pop a k := by
  obtain ⟨i, hi⟩ := nb_ne0 h
  have hk := nb_tlt ha hi
  have := cn_lt (P := fun _ => false) (Q := a.testBit) k (fun i _ h => by cases h) ⟨i, hk, rfl, hi⟩
  rw [nb_pop_cn]
  omega
section
variable {N n g : Nat} {nx : Nat → Nat}
theorem hs_areGuards {ng t : Nat} {a : Int32} {sx sm : hq_S} (hn : ng ≤ 3) (ht : hq_gr sx 0 2 = t) (h2 : t = 2 ∨ t = 25) (hx : hq_gi sx t 7 = Int32.ofNat ng) (hm : hq_gi sm 176 2 = Int32.ofNat ng) : (∃ G : Nat, G < 2 ^ ng ∧ a = Int32.ofNat G ∧ f_X11_areGuards N a sx = some (1, sx) ∧ f_X12_areGuards N a sm = some (1, sm)) ∨ (f_X11_areGuards N a sx = some (0, sx) ∧ f_X12_areGuards N a sm = some (0, sm)) := by
  have iT : hq_isT (hq_gr sx 0 2) := by rw [ht]; exact h2
  have ld : hq_ld sm 176 14 2 = some (Int32.ofNat ng) := by rw [nb_lit 2, nn_ld (by omega) (by omega), hm]
  have p3 : (2 : Nat) ^ ng ≤ 8 := Nat.pow_le_pow_right (by omega) (show ng ≤ 3 by omega)
  have on1 := nb_one (show ng < 32 by omega)
  rcases nn_le (a := a) (n := 100) (by omega) with ⟨G, hG, rfl, h0, -⟩ | h0 | ⟨h0, h1⟩
  · have lt : (Int32.ofNat G < Int32.ofNat (2 ^ ng)) = (G < 2 ^ ng) := nb_ltp (by omega) (by omega)
    by_cases q : G < 2 ^ ng
    · exact Or.inl ⟨G, q, rfl, by simp only [f_X11_areGuards, if_neg h0, if_pos iT, ht, hx, on1, lt, if_pos q]; rw [if_pos (by rw [← ht]; exact iT)], by simp only [f_X12_areGuards, if_neg h0, ld, Option.bind_some, on1, lt, if_pos q]⟩
    · exact Or.inr ⟨by simp only [f_X11_areGuards, if_neg h0, if_pos iT, ht, hx, on1, lt, if_neg q]; rw [if_pos (by rw [← ht]; exact iT)], by simp only [f_X12_areGuards, if_neg h0, ld, Option.bind_some, on1, lt, if_neg q]⟩
  · exact Or.inr ⟨by simp only [f_X11_areGuards, if_pos h0], by simp only [f_X12_areGuards, if_pos h0]⟩
  · have c : ¬ a < Int32.ofNat (2 ^ ng) := fun z => by
      rw [Int32.lt_iff_toInt_lt, nn_toInt (by omega)] at z
      rw [Int32.lt_iff_toInt_lt, nn_toInt (by omega)] at h1
      omega
    exact Or.inr ⟨by simp only [f_X11_areGuards, if_neg h0, if_pos iT, ht, hx, on1, if_neg c]; rw [if_pos (by rw [← ht]; exact iT)], by simp only [f_X12_areGuards, if_neg h0, ld, Option.bind_some, on1, if_neg c]⟩
theorem ro_row {ng t G : Nat} {ga : Nat → Nat} {s : hq_S} (hN : 100 < N) (hng : ng ≤ 3) (hG : G < 2 ^ ng) (ht : hq_gr s 0 2 = t) (h2 : t = 2 ∨ t = 25) (h7 : hq_gi s t 7 = Int32.ofNat ng) (h0 : hq_gi s t 0 = Int32.ofNat n) (hg : ∀ i, i < ng → hq_gi s 78 i = Int32.ofNat (ga i)) : f_X11_rowOf N (Int32.ofNat G) s = some (Int32.ofNat (enc n (fun j => ga (gs G ng j)) (nb_pop G ng)), s) := by
  have iT : hq_isT t := h2
  have p3 : (2 : Nat) ^ ng ≤ 8 := Nat.pow_le_pow_right (by omega) (show ng ≤ 3 by omega)
  have key : ∀ (q i m : Nat), i + q = ng → q < m → f_X11_rowOf_L4 N m (Int32.ofNat G) (Int32.ofNat (enc n (fun j => ga (gs G i j)) (nb_pop G i))) (Int32.ofNat i) s = some (Int32.ofNat (enc n (fun j => ga (gs G ng j)) (nb_pop G ng)), s) := by
    intro q
    induction q with
    | zero =>
      intro i m hi hm
      obtain ⟨m, rfl⟩ : ∃ j, m = j + 1 := ⟨m - 1, by omega⟩
      have cc : ¬ Int32.ofNat i < Int32.ofNat ng := by rw [nn_lt (by omega) (by omega)]; omega
      rw [f_X11_rowOf_L4_s]
      unfold f_X11_rowOf_L4_B
      rw [ht, if_pos iT, h7, if_neg cc, show i = ng by omega]
    | succ q ih =>
      intro i m hi hm
      obtain ⟨m, rfl⟩ : ∃ j, m = j + 1 := ⟨m - 1, by omega⟩
      have cc : Int32.ofNat i < Int32.ofNat ng := (nn_lt (by omega) (by omega)).mpr (by omega)
      have b1 := nb_bit1 (show G < 2147483648 by omega) (show i < 32 by omega)
      have ld : hq_ld s 78 3 (Int32.ofNat i) = some (Int32.ofNat (ga i)) := by rw [nn_ld (by omega) (by omega), hg i (by omega)]
      rw [← ih (i + 1) m (by omega) (by omega), f_X11_rowOf_L4_s]
      unfold f_X11_rowOf_L4_B
      by_cases q1 : G.testBit i = true
      · have c1 : ((Int32.ofNat G >>> (Int32.ofNat i &&& 31)) &&& (1 : Int32)) = 1 := by rw [b1]; exact q1
        rw [ht, if_pos iT, h7, if_pos cc, if_pos c1, if_pos iT, ld, Option.bind_some, Option.bind_some, h0, nb_mul, nb_add, nn_succ]
        congr 2
        rw [nb_pop, if_pos q1, enc]
        congr 2
        · refine enc_cg _ fun j hj => ?_
          show ga (gs G i j) = ga (gs G (i + 1) j)
          rw [gs_keep hj]
        · exact (gs_new q1).symm
      · have c1 : ¬ ((Int32.ofNat G >>> (Int32.ofNat i &&& 31)) &&& (1 : Int32)) = 1 := by rw [b1]; exact q1
        rw [ht, if_pos iT, h7, if_pos cc, if_neg c1, Option.bind_some, nn_succ]
        congr 2
        rw [nb_pop, if_neg q1, Nat.add_zero]
        refine enc_cg _ fun j hj => ?_
        show ga (gs G i j) = ga (gs G (i + 1) j)
        rw [gs_keep hj]
  exact key ng 0 N (by omega) (by omega)
theorem pg_9 {ng G : Nat} (hng : ng ≤ 3) (hG : G < 2 ^ ng) : ∀ (q i m : Nat) (s : hq_S), i + q = ng → q < m → hq_gi s 176 2 = Int32.ofNat ng → (∀ j, j < nb_pop G i → hq_gi s 213 j = Int32.ofNat (gs G i j)) → ∃ s', f_X12_putsGuards_L9 N m (Int32.ofNat G) (Int32.ofNat (nb_pop G i)) (Int32.ofNat i) s = (f_X12_laysChase N (Int32.ofNat (nb_pop G ng)) s').bind (fun s4 => some s4) ∧ (∀ j, j < nb_pop G ng → hq_gi s' 213 j = Int32.ofNat (gs G ng j)) ∧ ∀ c i, ¬ c = 213 → hq_gi s' c i = hq_gi s c i := by
  have p3 : (2 : Nat) ^ ng ≤ 8 := Nat.pow_le_pow_right (by omega) (show ng ≤ 3 by omega)
  intro q
  induction q with
  | zero =>
    intro i m s hi hm h2 h
    obtain ⟨m, rfl⟩ : ∃ j, m = j + 1 := ⟨m - 1, by omega⟩
    have ld : hq_ld s 176 14 2 = some (Int32.ofNat ng) := by rw [nb_lit 2, nn_ld (by omega) (by omega), h2]
    have cc : ¬ Int32.ofNat i < Int32.ofNat ng := by rw [nn_lt (by omega) (by omega)]; omega
    have hi : i = ng := by omega
    subst hi
    refine ⟨s, ?_, h, fun _ _ _ => rfl⟩
    rw [f_X12_putsGuards_L9_s]
    unfold f_X12_putsGuards_L9_B
    rw [ld, Option.bind_some, if_neg cc]
  | succ q ih =>
    intro i m s hi hm h2 h
    obtain ⟨m, rfl⟩ : ∃ j, m = j + 1 := ⟨m - 1, by omega⟩
    have ld : hq_ld s 176 14 2 = some (Int32.ofNat ng) := by rw [nb_lit 2, nn_ld (by omega) (by omega), h2]
    have cc : Int32.ofNat i < Int32.ofNat ng := (nn_lt (by omega) (by omega)).mpr (by omega)
    have b0 := nb_bit0 (show G < 2147483648 by omega) (show i < 32 by omega)
    have pl := nb_pop_le G i
    by_cases q1 : G.testBit i = true
    · have c1 : ¬ ((Int32.ofNat G >>> (Int32.ofNat i &&& 31)) &&& (1 : Int32)) = 0 := by rw [b0, q1]; decide
      have st : hq_st s 213 3 (Int32.ofNat (nb_pop G i)) (Int32.ofNat i) = some (hq_si s 213 (nb_pop G i) (Int32.ofNat i)) := nn_st (by omega) (by omega)
      obtain ⟨s', e1, e2, e3⟩ := ih (i + 1) m (hq_si s 213 (nb_pop G i) (Int32.ofNat i)) (by omega) (by omega) (by rw [nb_ii, if_neg (fun z => by omega)]; exact h2) (fun j hj => by
        rw [nb_pop, if_pos q1] at hj
        rw [nb_ii]
        by_cases e : j = nb_pop G i
        · rw [if_pos ⟨rfl, e⟩, e, gs_new q1]
        · rw [if_neg (fun z => e z.2), gs_keep (by omega)]; exact h j (by omega))
      refine ⟨s', ?_, e2, fun c i h => (e3 c i h).trans (by rw [nb_ii, if_neg (fun z => h z.1)])⟩
      rw [← e1, f_X12_putsGuards_L9_s]
      unfold f_X12_putsGuards_L9_B
      rw [ld, Option.bind_some, if_pos cc, if_neg c1, st, Option.bind_some, Option.bind_some, nn_succ, nn_succ, nb_pop, if_pos q1]
    · have c1 : ((Int32.ofNat G >>> (Int32.ofNat i &&& 31)) &&& (1 : Int32)) = 0 := by
        rw [b0]
        cases z : G.testBit i with
        | true => exact absurd z q1
        | false => rfl
      obtain ⟨s', e1, e2, e3⟩ := ih (i + 1) m s (by omega) (by omega) h2 (fun j hj => by
        rw [nb_pop, if_neg q1] at hj
        rw [gs_keep (by omega)]; exact h j (by omega))
      refine ⟨s', ?_, e2, e3⟩
      rw [← e1, f_X12_putsGuards_L9_s]
      unfold f_X12_putsGuards_L9_B
      rw [ld, Option.bind_some, if_pos cc, if_pos c1, Option.bind_some, nn_succ, nb_pop, if_neg q1]
      rfl
/-- the code of a row and a corner -/
theorem co_all {p : Nat → Nat} {c k1 : Nat} {s : hq_S} (hN : 100 < N) (hg : g ≤ 3) (hk : k1 = 214 ∨ k1 = 215) (F : cm_F n g nx s) (h : ∀ j, j < g → hq_gi s k1 j = Int32.ofNat (p j)) : f_X12_codeOf N k1 (Int32.ofNat c) s = some (Int32.ofNat (enc 10 (pud p g c) (g + 1)), s) := by
  have al : hq_alI k1 = some 3 := by rcases hk with rfl | rfl <;> rfl
  have fin : Int32.ofNat (enc 10 (pud p g c) (g + 1)) = (10 : Int32) * Int32.ofNat (enc 10 p g) + Int32.ofNat c := by
    rw [enc, pud_i, enc_cg g (q := p) (fun j hj => pud_n (by omega)), nb_m10, nb_add, Nat.mul_comm]
  have key : ∀ (q j m : Nat), j + q = g → q < m → f_X12_codeOf_L5 N m k1 (Int32.ofNat c) (Int32.ofNat (enc 10 p j)) (Int32.ofNat j) s = some (Int32.ofNat (enc 10 (pud p g c) (g + 1)), s) := by
    intro q
    induction q with
    | zero =>
      intro j m hj hm
      obtain ⟨m, rfl⟩ : ∃ j, m = j + 1 := ⟨m - 1, by omega⟩
      have cc : ¬ Int32.ofNat j < Int32.ofNat g := by rw [nn_lt (by omega) (by omega)]; omega
      rw [f_X12_codeOf_L5_s]
      unfold f_X12_codeOf_L5_B
      rw [F.2.1, if_neg cc, fin, show j = g by omega]
    | succ q ih =>
      intro j m hj hm
      obtain ⟨m, rfl⟩ : ∃ j, m = j + 1 := ⟨m - 1, by omega⟩
      have cc : Int32.ofNat j < Int32.ofNat g := (nn_lt (by omega) (by omega)).mpr (by omega)
      have ld : hq_ldiA s k1 (Int32.ofNat j) = some (Int32.ofNat (p j)) := by rw [nn_ldiA al (by omega) (by omega), h j (by omega)]
      rw [← ih (j + 1) m (by omega) (by omega), f_X12_codeOf_L5_s]
      unfold f_X12_codeOf_L5_B
      rw [F.2.1, if_pos cc, ld, Option.bind_some, nb_m10, nb_add, nn_succ, enc, Nat.mul_comm]
  exact key g 0 N (by omega) (by omega)
/-- what the reference knows of a row and a corner -/
theorem cM_v {K c : Nat} {p : Nat → Nat} {s : hq_S} (hn : n ≤ 10) (M : cM n g nx K s) (hp : ∀ j, j < g → p j < n) (hc : c < n) : enc 10 (pud p g c) (g + 1) < 10 ^ (g + 1) ∧ ((∃ j, j ≤ K ∧ cE n g (tnx nx) j p c ∧ hq_gi s 208 (enc 10 (pud p g c) (g + 1)) = Int32.ofNat j) ∨ (hq_gi s 208 (enc 10 (pud p g c) (g + 1)) = -1 ∧ ∀ i, ¬ cL n g (tnx nx) i p c)) := by
  have pp : ∀ j, j < g + 1 → pud p g c j < n := fun j hj => by
    by_cases e : j = g
    · rw [e, pud_i]; exact hc
    · rw [pud_n e]; exact hp j (by omega)
  have e2 := dgs_enc (n := 10) (p := pud p g c) (g + 1) (fun j hj => by have := pp j hj; omega)
  have el := enc_lt (n := 10) (p := pud p g c) (g + 1) (fun j hj => by have := pp j hj; omega)
  have eg : dgs 10 (g + 1) (enc 10 (pud p g c) (g + 1)) g = c := by rw [e2 g (by omega), pud_i]
  have cg : ∀ j, j < g → dgs 10 (g + 1) (enc 10 (pud p g c) (g + 1)) j = p j := fun j hj => by rw [e2 j (by omega), pud_n (by omega)]
  refine ⟨el, ?_⟩
  rcases M.2.1 _ el with ⟨j, j1, j2, j3, j4⟩ | ⟨j1, j2⟩
  · rw [eg] at j3
    exact Or.inl ⟨j, j1, (cE_cg cg).mp j3, j4⟩
  · refine Or.inr ⟨j1, fun i z => j2 ⟨fun j hj => by rw [e2 j hj]; exact pp j hj, ?_⟩⟩
    rw [eg]
    exact (cL_cg cg K c).mpr (M.2.2 i p c hp hc z)
/-- what the class knows of it -/
theorem cS_v {K c : Nat} {tn : Nat → Nat} {p : Nat → Nat} {s : hq_S} (B : cB n g tn) (S : cS n g tn K s) (Fx : cF n g tn K) (hp : ∀ j, j < g → p j < n) (hc : c < n) : enc n p g < n ^ g ∧ enc n p g * n + c < 10000 ∧ ((∃ j, j ≤ K ∧ cE n g tn j p c ∧ hq_gi s 158 (enc n p g * n + c) = Int32.ofNat j) ∨ (hq_gi s 158 (enc n p g * n + c) = 2147483647 ∧ ∀ i, ¬ cL n g tn i p c)) := by
  have el := enc_lt g hp
  have cg := dgs_enc g hp
  have hM := cB_M B
  have il := cx_il el hc
  refine ⟨el, by omega, ?_⟩
  rcases S.2.2.2 _ c el hc with ⟨j, j1, j2, j3⟩ | ⟨j1, j2⟩
  · exact Or.inl ⟨j, j1, (cE_cg cg).mp j2, j3⟩
  · exact Or.inr ⟨j1, fun i z => j2 ((cL_cg cg K c).mpr (Fx i p c hp hc z))⟩
end
