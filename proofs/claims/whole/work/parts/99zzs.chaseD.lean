/-! FIRST GO: the reference's first row -/
section
variable {N n g : Nat} {nx : Nat → Nat}
theorem oc_21 {K c : Nat} {p : Nat → Nat} {s : hq_S} (hN : 100 < N) (hn : n ≤ 10) (hg : g ≤ 3) (hnx : ∀ c, nx c < 2 ^ n) (hK : K < 20000) (M : cM n g nx K s) (hp : ∀ j, j < g → p j < n) (hc : c < n) (nat : ¬ ∃ j, j < g ∧ p j = c) (D : ∀ j, j < g → hq_gi s 214 j = Int32.ofNat (p j)) : ∀ (q d m k : Nat), d + q = n → q < m → k < 20000 → (∀ c', c' < d → (tnx nx c).testBit c' = true → cL n g (tnx nx) k p c') → (k = 0 ∨ ∃ c', c' < n ∧ (tnx nx c).testBit c' = true ∧ cE n g (tnx nx) k p c') → ∃ v, f_X12_outcome_L21 N m (Int32.ofNat c) (Int32.ofNat (tnx nx c)) (Int32.ofNat (k + 1)) (Int32.ofNat d) s = some (v, s) ∧ ((∃ k, k < 20000 ∧ cTE n g (tnx nx) k p c ∧ v = Int32.ofNat (k + 1)) ∨ (v = -1 ∧ ∀ i, ¬ cT n g (tnx nx) i p c)) := by
  have tl := tnx_lt hn hnx c
  intro q
  induction q with
  | zero =>
    intro d m k hd hm hk al mx
    obtain ⟨m, rfl⟩ : ∃ j, m = j + 1 := ⟨m - 1, by omega⟩
    have cc : ¬ Int32.ofNat d < Int32.ofNat n := by rw [nn_lt (by omega) (by omega)]; omega
    refine ⟨Int32.ofNat (k + 1), ?_, Or.inl ⟨k, hk, ⟨Or.inr fun c' hc' => al c' (by omega), fun i hi z => ?_⟩, rfl⟩⟩
    · rw [f_X12_outcome_L21_s]
      unfold f_X12_outcome_L21_B
      rw [cm_n M.1, Option.bind_some, if_neg cc]
    · rcases mx with h | ⟨c', h1, h2, h3⟩
      · omega
      · rcases z with z | z
        · exact nat z
        · exact h3.2 i hi (z c' h1 h2)
  | succ q ih =>
    intro d m k hd hm hk al mx
    obtain ⟨m, rfl⟩ : ∃ j, m = j + 1 := ⟨m - 1, by omega⟩
    have cc : Int32.ofNat d < Int32.ofNat n := (nn_lt (by omega) (by omega)).mpr (by omega)
    have hdn : d < n := by omega
    have b0 := nb_bit0 (show tnx nx c < 2147483648 by omega) (show d < 32 by omega)
    by_cases q1 : (tnx nx c).testBit d = true
    · have z : ¬ ((Int32.ofNat (tnx nx c) >>> (Int32.ofNat d &&& 31)) &&& (1 : Int32)) = 0 := by rw [b0, q1]; decide
      obtain ⟨va, va1, va2⟩ := isAt_all (N := N) (c := d) hN hg (fun j hj => by have := hp j hj; omega) (by omega) M.1 D
      rcases va2 with ⟨rfl, va2⟩ | ⟨rfl, va2⟩
      · have d10 : ¬ (1 : Int32) = 0 := by decide
        obtain ⟨v, v1, v2⟩ := ih (d + 1) m k (by omega) (by omega) hk (fun c' hc' hb => by
          by_cases e : c' = d
          · rw [e]; exact cL_le (Nat.zero_le k) va2
          · exact al c' (by omega) hb) mx
        refine ⟨v, ?_, v2⟩
        rw [← v1, f_X12_outcome_L21_s]
        unfold f_X12_outcome_L21_B f_X12_outcome_J87
        rw [cm_n M.1, Option.bind_some, if_pos cc, if_neg z, va1, Option.bind_some, if_neg d10, nn_succ]
      · have co := co_all (N := N) (p := p) (c := d) (k1 := 214) hN hg (Or.inl rfl) M.1 D
        obtain ⟨el, vv⟩ := cM_v hn M hp hdn
        have ld : hq_ld s 208 10000 (Int32.ofNat (enc 10 (pud p g d) (g + 1))) = some (hq_gi s 208 (enc 10 (pud p g d) (g + 1))) := nn_ld (Nat.lt_of_lt_of_le el (p10g hg)) (by omega)
        rcases vv with ⟨j, j1, j2, j3⟩ | ⟨j1, j2⟩
        · have mx2 : hq_max (Int32.ofNat (k + 1)) (Int32.ofNat j + 1) = Int32.ofNat (max k j + 1) := by
            have e : Int32.ofNat j + 1 = Int32.ofNat (j + 1) := nb_add j 1
            rw [e, nb_max (by omega) (by omega)]
            congr 1
            omega
          obtain ⟨v, v1, v2⟩ := ih (d + 1) m (max k j) (by omega) (by omega) (by omega) (fun c' hc' hb => by
            by_cases e : c' = d
            · rw [e]; exact cL_le (by omega) j2.1
            · exact cL_le (by omega) (al c' (by omega) hb)) (by
            by_cases h : k < j
            · rw [Nat.max_eq_right (by omega)]
              exact Or.inr ⟨d, hdn, q1, j2⟩
            · rw [Nat.max_eq_left (by omega)]
              exact mx)
          refine ⟨v, ?_, v2⟩
          rw [← v1, f_X12_outcome_L21_s]
          unfold f_X12_outcome_L21_B f_X12_outcome_J87
          rw [cm_n M.1, Option.bind_some, if_pos cc, if_neg z, va1, Option.bind_some, if_pos rfl, co, Option.bind_some, ld, Option.bind_some, j3, if_neg (sw_m1n (by omega)), mx2, nn_succ]
        · refine ⟨-1, ?_, Or.inr ⟨rfl, fun i w => ?_⟩⟩
          · rw [f_X12_outcome_L21_s]
            unfold f_X12_outcome_L21_B
            rw [cm_n M.1, Option.bind_some, if_pos cc, if_neg z, va1, Option.bind_some, if_pos rfl, co, Option.bind_some, ld, Option.bind_some, if_pos j1]
          · rcases w with w | w
            · exact nat w
            · exact j2 i (w d hdn q1)
    · have z : ((Int32.ofNat (tnx nx c) >>> (Int32.ofNat d &&& 31)) &&& (1 : Int32)) = 0 := by
        rw [b0]
        cases w : (tnx nx c).testBit d with
        | true => exact absurd w q1
        | false => rfl
      obtain ⟨v, v1, v2⟩ := ih (d + 1) m k (by omega) (by omega) hk (fun c' hc' hb => by
        by_cases e : c' = d
        · rw [e] at hb; exact absurd hb q1
        · exact al c' (by omega) hb) mx
      refine ⟨v, ?_, v2⟩
      rw [← v1, f_X12_outcome_L21_s]
      unfold f_X12_outcome_L21_B f_X12_outcome_J87
      rw [cm_n M.1, Option.bind_some, if_pos cc, if_pos z, nn_succ]
theorem oc_all {K c : Nat} {p : Nat → Nat} {s : hq_S} (hN : 100 < N) (hn : n ≤ 10) (hg : g ≤ 3) (hnx : ∀ c, nx c < 2 ^ n) (hK : K < 20000) (M : cM n g nx K s) (hp : ∀ j, j < g → p j < n) (hc : c < n) (D : ∀ j, j < g → hq_gi s 214 j = Int32.ofNat (p j)) : ∃ v, f_X12_outcome N (Int32.ofNat c) s = some (v, s) ∧ ((∃ k, k < 20000 ∧ cTE n g (tnx nx) k p c ∧ v = Int32.ofNat (k + 1)) ∨ (v = -1 ∧ ∀ i, ¬ cT n g (tnx nx) i p c)) := by
  obtain ⟨va, va1, va2⟩ := isAt_all (N := N) (c := c) hN hg (fun j hj => by have := hp j hj; omega) (by omega) M.1 D
  rcases va2 with ⟨rfl, va2⟩ | ⟨rfl, va2⟩
  · have d10 : ¬ (1 : Int32) = 0 := by decide
    refine ⟨1, ?_, Or.inl ⟨0, by omega, ⟨Or.inl va2, fun i hi => by omega⟩, rfl⟩⟩
    unfold f_X12_outcome
    rw [va1, Option.bind_some, if_neg d10]
  · obtain ⟨v, v1, v2⟩ := oc_21 (N := N) hN hn hg hnx hK M hp hc va2 D n 0 N 0 (by omega) (by omega) (by omega) (fun c' h => by omega) (Or.inl rfl)
    have v1 : f_X12_outcome_L21 N N (Int32.ofNat c) (Int32.ofNat (tnx nx c)) 1 0 s = some (v, s) := v1
    refine ⟨v, ?_, v2⟩
    unfold f_X12_outcome
    rw [va1, Option.bind_some, if_pos rfl, cm_go (N := N) (show c < 10 by omega) M.1, Option.bind_some, v1]
/-- from guard j on, behind a: the first row, or none -/
def lr_ok (n g : Nat) (nx : Nat → Nat) (k : Nat) (p : Nat → Nat) (c j : Nat) (a q : Nat → Nat) : Prop := (∀ i, i < j → q i = a i) ∧ (∀ i, j ≤ i → i < g → q i < n ∧ (tnx nx (p i)).testBit (q i) = true) ∧ cTE n g (tnx nx) k q c
def lr_D (n g : Nat) (nx : Nat → Nat) (k : Nat) (p : Nat → Nat) (c j : Nat) (a : Nat → Nat) (v : Int32) (s' : hq_S) : Prop := (v = 1 ∧ ∃ q, lr_ok n g nx k p c j a q ∧ (∀ i, i < g → hq_gi s' 214 i = Int32.ofNat (q i)) ∧ ∀ q', lr_ok n g nx k p c j a q' → enc n q g ≤ enc n q' g) ∨ (v = 0 ∧ ∀ q', ¬ lr_ok n g nx k p c j a q')
theorem lr_all {K k c : Nat} {p gi : Nat → Nat} (hN : 100 < N) (hn : n ≤ 10) (hg : g ≤ 3) (hnx : ∀ c, nx c < 2 ^ n) (hK : K < 20000) (hk : k < 20000) (hp : ∀ j, j < g → p j < n) (hc : c < n) : ∀ (e j d : Nat) (a : Nat → Nat) (s : hq_S), j + e = g → e < d → cM n g nx K s → cW g gi p s → (∀ i, i < j → a i < n) → (∀ i, i < j → hq_gi s 214 i = Int32.ofNat (a i)) → ∃ v s', f_X12_laysRow_G N d 0 (Int32.ofNat j) (Int32.ofNat c) (Int32.ofNat (k + 1)) s = some (v, s') ∧ lr_D n g nx k p c j a v s' ∧ (∀ i, i < j → hq_gi s' 214 i = Int32.ofNat (a i)) ∧ ∀ c i, ¬ c = 214 → hq_gi s' c i = hq_gi s c i := by
  intro e
  induction e with
  | zero =>
    intro j d a s hj hd M W ha D
    obtain ⟨d, rfl⟩ : ∃ x, d = x + 1 := ⟨d - 1, by omega⟩
    have hj : j = g := by omega
    subst hj
    obtain ⟨v, v1, v2⟩ := oc_all (N := N) hN hn hg hnx hK M ha hc D
    have un : f_X12_laysRow_G N (d + 1) 0 (Int32.ofNat j) (Int32.ofNat c) (Int32.ofNat (k + 1)) s = f_X12_laysRow_S N (f_X12_laysRow_G N d 0) (Int32.ofNat j) (Int32.ofNat c) (Int32.ofNat (k + 1)) s := rfl
    have test : v = Int32.ofNat (k + 1) ↔ cTE n j (tnx nx) k a c := by
      rcases v2 with ⟨i, i1, i2, rfl⟩ | ⟨rfl, i2⟩
      · rw [nn_inj (by omega) (by omega)]
        exact ⟨fun h => (show i = k by omega) ▸ i2, fun h => by rw [cTE_eq i2 h]⟩
      · exact ⟨fun h => absurd h.symm (sw_m1n (by omega)), fun h => absurd h.1 (i2 k)⟩
    by_cases z : v = Int32.ofNat (k + 1)
    · refine ⟨1, s, ?_, Or.inl ⟨rfl, a, ⟨fun _ _ => rfl, fun i h1 h2 => by omega, test.mp z⟩, D, fun q' h => ?_⟩, D, fun _ _ _ => rfl⟩
      · rw [un]
        unfold f_X12_laysRow_S
        rw [M.1.2.1, if_pos rfl, v1, Option.bind_some, if_pos z]
      · rw [enc_cg j h.1]
        exact Nat.le_refl _
    · refine ⟨0, s, ?_, Or.inr ⟨rfl, fun q' h => z (test.mpr ((cTE_cg h.1).mp h.2.2))⟩, D, fun _ _ _ => rfl⟩
      rw [un]
      unfold f_X12_laysRow_S
      rw [M.1.2.1, if_pos rfl, v1, Option.bind_some, if_neg z]
  | succ e ih =>
    intro j d a s hj hd M W ha D
    obtain ⟨d, rfl⟩ : ∃ x, d = x + 1 := ⟨d - 1, by omega⟩
    have un : f_X12_laysRow_G N (d + 1) 0 (Int32.ofNat j) (Int32.ofNat c) (Int32.ofNat (k + 1)) s = f_X12_laysRow_S N (f_X12_laysRow_G N d 0) (Int32.ofNat j) (Int32.ofNat c) (Int32.ofNat (k + 1)) s := rfl
    have nj : ¬ Int32.ofNat j = Int32.ofNat g := by rw [nn_inj (by omega) (by omega)]; omega
    obtain ⟨w1, w2, w3⟩ := W j (by omega)
    have pj := hp j (by omega)
    have l1 : hq_ld s 213 3 (Int32.ofNat j) = some (Int32.ofNat (gi j)) := by rw [nn_ld (by omega) (by omega), w2]
    have l2 : hq_ld s 200 69 (Int32.ofNat (gi j)) = some (Int32.ofNat (p j)) := by rw [nn_ld (by omega) (by omega), w3]
    have go := cm_go (N := N) (show p j < 10 by omega) M.1
    have tl := tnx_lt hn hnx (p j)
    -- the loop over corners
    have loop : ∀ (q d1 m : Nat) (s1 : hq_S), d1 + q = n → q < m → cM n g nx K s1 → cW g gi p s1 → (∀ i, i < j → hq_gi s1 214 i = Int32.ofNat (a i)) → (∀ q', lr_ok n g nx k p c j a q' → d1 ≤ q' j) → ∃ v s', f_X12_laysRow_L43 N (f_X12_laysRow_G N d 0) m (Int32.ofNat j) (Int32.ofNat c) (Int32.ofNat (k + 1)) (Int32.ofNat (tnx nx (p j))) (Int32.ofNat d1) s1 = some (v, s') ∧ lr_D n g nx k p c j a v s' ∧ (∀ i, i < j → hq_gi s' 214 i = Int32.ofNat (a i)) ∧ ∀ c i, ¬ c = 214 → hq_gi s' c i = hq_gi s1 c i := by
      intro q
      induction q with
      | zero =>
        intro d1 m s1 hd1 hm M1 W1 D1 no
        obtain ⟨m, rfl⟩ : ∃ x, m = x + 1 := ⟨m - 1, by omega⟩
        have cc : ¬ Int32.ofNat d1 < Int32.ofNat n := by rw [nn_lt (by omega) (by omega)]; omega
        refine ⟨0, s1, ?_, Or.inr ⟨rfl, fun q' h => ?_⟩, D1, fun _ _ _ => rfl⟩
        · rw [f_X12_laysRow_L43_s]
          unfold f_X12_laysRow_L43_B
          rw [cm_n M1.1, Option.bind_some, if_neg cc]
        · have h1 := no q' h
          have h2 := (h.2.1 j (Nat.le_refl _) (by omega)).1
          omega
      | succ q ih2 =>
        intro d1 m s1 hd1 hm M1 W1 D1 no
        obtain ⟨m, rfl⟩ : ∃ x, m = x + 1 := ⟨m - 1, by omega⟩
        have cc : Int32.ofNat d1 < Int32.ofNat n := (nn_lt (by omega) (by omega)).mpr (by omega)
        have b0 := nb_bit0 (show tnx nx (p j) < 2147483648 by omega) (show d1 < 32 by omega)
        by_cases q1 : (tnx nx (p j)).testBit d1 = true
        · have z : ¬ ((Int32.ofNat (tnx nx (p j)) >>> (Int32.ofNat d1 &&& 31)) &&& (1 : Int32)) = 0 := by rw [b0, q1]; decide
          have st : hq_st s1 214 3 (Int32.ofNat j) (Int32.ofNat d1) = some (hq_si s1 214 j (Int32.ofNat d1)) := nn_st (by omega) (by omega)
          have ow : ∀ c i, ¬ c = 214 → hq_gi (hq_si s1 214 j (Int32.ofNat d1)) c i = hq_gi s1 c i := fun c i h => by rw [nb_ii, if_neg (fun z => h z.1)]
          obtain ⟨v, s2, f1, f2, f3, f4⟩ := ih (j + 1) d (pud a j d1) (hq_si s1 214 j (Int32.ofNat d1)) (by omega) (by omega) ⟨cm_F_k (fun c i h => ow c i (by omega)) M1.1, fun y hy => by rw [ow _ _ (by omega)]; exact M1.2.1 y hy, M1.2.2⟩ (fun i hi => by rw [ow _ _ (by omega), ow _ _ (by omega)]; exact W1 i hi) (fun i hi => by
            by_cases e : i = j
            · rw [e, pud_i]; omega
            · rw [pud_n e]; exact ha i (by omega)) (fun i hi => by
            rw [nb_ii]
            by_cases e : i = j
            · rw [if_pos ⟨rfl, e⟩, e, pud_i]
            · rw [if_neg (fun z => e z.2), pud_n e]; exact D1 i (by omega))
          have keep : ∀ i, i < j → hq_gi s2 214 i = Int32.ofNat (a i) := fun i hi => by
            have := f3 i (by omega)
            rw [pud_n (by omega)] at this
            exact this
          have kk : ∀ c i, ¬ c = 214 → hq_gi s2 c i = hq_gi s1 c i := fun c i h => (f4 c i h).trans (ow c i h)
          have conv : ∀ q', (lr_ok n g nx k p c (j + 1) (pud a j d1) q' ↔ (lr_ok n g nx k p c j a q' ∧ q' j = d1)) := fun q' => by
            constructor
            · rintro ⟨h1, h2, h3⟩
              have hj' := h1 j (by omega)
              rw [pud_i] at hj'
              refine ⟨⟨fun i hi => by have := h1 i (by omega); rw [pud_n (by omega)] at this; exact this, fun i hi hi2 => ?_, h3⟩, hj'⟩
              by_cases e : i = j
              · rw [e, hj']; exact ⟨by omega, q1⟩
              · exact h2 i (by omega) hi2
            · rintro ⟨⟨h1, h2, h3⟩, h4⟩
              refine ⟨fun i hi => ?_, fun i hi hi2 => h2 i (by omega) hi2, h3⟩
              by_cases e : i = j
              · rw [e, pud_i]; exact h4
              · rw [pud_n e]; exact h1 i (by omega)
          rcases f2 with ⟨rfl, qq, h1, h2, h3⟩ | ⟨rfl, h1⟩
          · have d10 : ¬ (1 : Int32) = 0 := by decide
            obtain ⟨g1, g2⟩ := (conv qq).mp h1
            refine ⟨1, s2, ?_, Or.inl ⟨rfl, qq, g1, h2, fun q' hq' => ?_⟩, keep, kk⟩
            · rw [f_X12_laysRow_L43_s]
              unfold f_X12_laysRow_L43_B
              rw [cm_n M1.1, Option.bind_some, if_pos cc, if_neg z, st, Option.bind_some, nn_succ, f1, Option.bind_some, if_neg d10]
            · have le := no q' hq'
              by_cases e : q' j = d1
              · exact h3 q' ((conv q').mpr ⟨hq', e⟩)
              · refine Nat.le_of_lt (enc_lex (j := j) g (by omega) (fun i hi => by rw [g1.1 i hi, hq'.1 i hi]) (by rw [g2]; omega) (fun i hi => ?_))
                by_cases e2 : i < j
                · rw [g1.1 i e2]; exact ha i e2
                · exact (g1.2.1 i (by omega) hi).1
          · obtain ⟨v, s', e1, e2, e3, e4⟩ := ih2 (d1 + 1) m s2 (by omega) (by omega) ⟨cm_F_k (fun c i h => kk c i (by omega)) M1.1, fun y hy => by rw [kk _ _ (by omega)]; exact M1.2.1 y hy, M1.2.2⟩ (fun i hi => by rw [kk _ _ (by omega), kk _ _ (by omega)]; exact W1 i hi) keep (fun q' hq' => by
              have le := no q' hq'
              by_cases e : q' j = d1
              · exact absurd ((conv q').mpr ⟨hq', e⟩) (h1 q')
              · omega)
            refine ⟨v, s', ?_, e2, e3, fun c i h => (e4 c i h).trans (kk c i h)⟩
            rw [← e1, f_X12_laysRow_L43_s]
            unfold f_X12_laysRow_L43_B f_X12_laysRow_J89
            rw [cm_n M1.1, Option.bind_some, if_pos cc, if_neg z, st, Option.bind_some, nn_succ, f1, Option.bind_some, if_pos rfl, nn_succ]
        · have z : ((Int32.ofNat (tnx nx (p j)) >>> (Int32.ofNat d1 &&& 31)) &&& (1 : Int32)) = 0 := by
            rw [b0]
            cases w : (tnx nx (p j)).testBit d1 with
            | true => exact absurd w q1
            | false => rfl
          obtain ⟨v, s', e1, e2⟩ := ih2 (d1 + 1) m s1 (by omega) (by omega) M1 W1 D1 (fun q' hq' => by
            have le := no q' hq'
            by_cases e : q' j = d1
            · have := (hq'.2.1 j (Nat.le_refl _) (by omega)).2
              rw [e] at this
              exact absurd this q1
            · omega)
          refine ⟨v, s', ?_, e2⟩
          rw [← e1, f_X12_laysRow_L43_s]
          unfold f_X12_laysRow_L43_B f_X12_laysRow_J89
          rw [cm_n M1.1, Option.bind_some, if_pos cc, if_pos z, nn_succ]
    obtain ⟨v, s', e1, e2⟩ := loop n 0 N s (by omega) (by omega) M W D (fun q' _ => Nat.zero_le _)
    have e1 : f_X12_laysRow_L43 N (f_X12_laysRow_G N d 0) N (Int32.ofNat j) (Int32.ofNat c) (Int32.ofNat (k + 1)) (Int32.ofNat (tnx nx (p j))) 0 s = some (v, s') := e1
    refine ⟨v, s', ?_, e2⟩
    rw [un]
    unfold f_X12_laysRow_S
    rw [M.1.2.1, if_neg nj, l1, Option.bind_some, l2, Option.bind_some, go, Option.bind_some, e1]
end
