/-! TAKERS (22), POST (23) -/
section
variable {N n g : Nat} {nx tn : Nat → Nat}
/-- two neighbours change places -/
def swp (p : Nat → Nat) (i : Nat) : Nat → Nat := fun j => if j = i then p (i + 1) else if j = i + 1 then p i else p j
theorem swp_0 {p : Nat → Nat} {i : Nat} : swp p i i = p (i + 1) := if_pos rfl
theorem swp_1 {p : Nat → Nat} {i : Nat} : swp p i (i + 1) = p i := by unfold swp; rw [if_neg (by omega), if_pos rfl]
theorem swp_n {p : Nat → Nat} {i j : Nat} (h1 : ¬ j = i) (h2 : ¬ j = i + 1) : swp p i j = p j := by unfold swp; rw [if_neg h1, if_neg h2]
theorem cL_swp {i : Nat} (hi : i + 1 < g) : ∀ k p c, cL n g tn k p c → cL n g tn k (swp p i) c := by
  have at' : ∀ (p : Nat → Nat) c, (∃ j, j < g ∧ p j = c) → ∃ j, j < g ∧ swp p i j = c := by
    rintro p c ⟨j, h1, h2⟩
    by_cases e : j = i
    · exact ⟨i + 1, hi, by rw [swp_1, ← e]; exact h2⟩
    · by_cases e2 : j = i + 1
      · exact ⟨i, by omega, by rw [swp_0, ← e2]; exact h2⟩
      · exact ⟨j, h1, by rw [swp_n e e2]; exact h2⟩
  intro k
  induction k with
  | zero => exact fun p c h => at' p c h
  | succ k ih =>
    intro p c h
    rcases cL_s.mp h with h | ⟨q, h1, h2⟩
    · exact cL_s.mpr (Or.inl (ih p c h))
    · refine cL_s.mpr (Or.inr ⟨swp q i, fun j hj => ?_, ?_⟩)
      · by_cases e : j = i
        · rw [e, swp_0, swp_0]; exact h1 (i + 1) hi
        · by_cases e2 : j = i + 1
          · rw [e2, swp_1, swp_1]; exact h1 i (by omega)
          · rw [swp_n e e2, swp_n e e2]; exact h1 j hj
      · rcases h2 with h2 | h2
        · exact Or.inl (at' q c h2)
        · exact Or.inr fun c' hc' hb => ih q c' (h2 c' hc' hb)
/-- the first row of posts has them rising -/
theorem cPG_up {r : Nat} (h1 : 1 ≤ n) (hP : cPG n g tn r) (no : ∀ r', r' < r → ¬ cPG n g tn r') : ∀ i, i + 1 < g → dgs n g r i ≤ dgs n g r (i + 1) := fun i hi => by
  by_cases z : dgs n g r i ≤ dgs n g r (i + 1)
  · exact z
  · have pos : ∀ j, j < g → dgs n g r j < n := fun j hj => dgs_lt (by omega) g r j hj
    have ps : ∀ j, j < g → swp (dgs n g r) i j < n := fun j hj => by
      by_cases e : j = i
      · rw [e, swp_0]; exact pos _ (by omega)
      · by_cases e2 : j = i + 1
        · rw [e2, swp_1]; exact pos _ (by omega)
        · rw [swp_n e e2]; exact pos j hj
    have lt := enc_lex (n := n) (q := swp (dgs n g r) i) (q' := dgs n g r) (j := i) g (by omega) (fun j hj => swp_n (by omega) (by omega)) (by rw [swp_0]; omega) ps
    rw [enc_dgs (by omega) g r hP.1] at lt
    refine absurd ⟨enc_lt g ps, fun c hc => ?_⟩ (no _ lt)
    obtain ⟨k, hk⟩ := hP.2 c hc
    exact ⟨k, (cL_cg (dgs_enc g ps) k c).mpr (cL_swp hi k _ c hk)⟩
/-! the reference's posts -/
theorem lp_10 {K : Nat} {p : Nat → Nat} {R0 : Int32 → hq_S → Option (Int32 × hq_S)} {a1 : Int32} {s : hq_S} (hN : 100 < N) (hn : n ≤ 10) (hg : g ≤ 3) (hK : K < 20000) (M : cM n g nx K s) (hp : ∀ j, j < g → p j < n) (D : ∀ j, j < g → hq_gi s 215 j = Int32.ofNat (p j)) : ∀ (q c m : Nat), c + q = n → q < m → (∀ c', c' < c → ∃ k, cL n g (tnx nx) k p c') → ∃ v, f_X12_laysPosts_L10 N R0 m a1 (Int32.ofNat c) s = some (v, s) ∧ ((v = 1 ∧ ∀ c', c' < n → ∃ k, cL n g (tnx nx) k p c') ∨ (v = 0 ∧ ¬ ∀ c', c' < n → ∃ k, cL n g (tnx nx) k p c')) := by
  intro q
  induction q with
  | zero =>
    intro c m hc hm al
    obtain ⟨m, rfl⟩ : ∃ x, m = x + 1 := ⟨m - 1, by omega⟩
    have cc : ¬ Int32.ofNat c < Int32.ofNat n := by rw [nn_lt (by omega) (by omega)]; omega
    refine ⟨1, ?_, Or.inl ⟨rfl, fun c' hc' => al c' (by omega)⟩⟩
    rw [f_X12_laysPosts_L10_s]
    unfold f_X12_laysPosts_L10_B
    rw [cm_n M.1, Option.bind_some, if_neg cc]
  | succ q ih =>
    intro c m hc hm al
    obtain ⟨m, rfl⟩ : ∃ x, m = x + 1 := ⟨m - 1, by omega⟩
    have cc : Int32.ofNat c < Int32.ofNat n := (nn_lt (by omega) (by omega)).mpr (by omega)
    have co := co_all (N := N) (p := p) (c := c) (k1 := 215) hN hg (Or.inr rfl) M.1 D
    obtain ⟨el, vv⟩ := cM_v hn M hp (show c < n by omega)
    have ld : hq_ld s 208 10000 (Int32.ofNat (enc 10 (pud p g c) (g + 1))) = some (hq_gi s 208 (enc 10 (pud p g c) (g + 1))) := nn_ld (Nat.lt_of_lt_of_le el (p10g hg)) (by omega)
    rcases vv with ⟨j, j1, j2, j3⟩ | ⟨j1, j2⟩
    · obtain ⟨v, v1, v2⟩ := ih (c + 1) m (by omega) (by omega) (fun c' hc' => by
        by_cases e : c' = c
        · rw [e]; exact ⟨j, j2.1⟩
        · exact al c' (by omega))
      refine ⟨v, ?_, v2⟩
      rw [← v1, f_X12_laysPosts_L10_s]
      unfold f_X12_laysPosts_L10_B
      rw [cm_n M.1, Option.bind_some, if_pos cc, co, Option.bind_some, ld, Option.bind_some, j3, if_neg (sw_m1n (by omega)), nn_succ]
    · refine ⟨0, ?_, Or.inr ⟨rfl, fun h => ?_⟩⟩
      · rw [f_X12_laysPosts_L10_s]
        unfold f_X12_laysPosts_L10_B
        rw [cm_n M.1, Option.bind_some, if_pos cc, co, Option.bind_some, ld, Option.bind_some, if_pos j1]
      · obtain ⟨k, hk⟩ := h c (by omega)
        exact j2 k hk
def lp_ok (n g : Nat) (nx : Nat → Nat) (j : Nat) (a q : Nat → Nat) : Prop := (∀ i, i < j → q i = a i) ∧ (∀ i, j ≤ i → i < g → q i < n ∧ (∀ h, h + 1 = i → q h ≤ q i)) ∧ ∀ c, c < n → ∃ k, cL n g (tnx nx) k q c
def lp_D (n g : Nat) (nx : Nat → Nat) (j : Nat) (a : Nat → Nat) (v : Int32) (s' : hq_S) : Prop := (v = 1 ∧ ∃ q, lp_ok n g nx j a q ∧ (∀ i, i < g → hq_gi s' 215 i = Int32.ofNat (q i)) ∧ ∀ q', lp_ok n g nx j a q' → enc n q g ≤ enc n q' g) ∨ (v = 0 ∧ ∀ q', ¬ lp_ok n g nx j a q')
theorem lp_all {K : Nat} (hN : 100 < N) (hn : n ≤ 10) (hg : g ≤ 3) (hK : K < 20000) : ∀ (e j d : Nat) (a : Nat → Nat) (s : hq_S), j + e = g → e < d → cM n g nx K s → (∀ i, i < j → a i < n) → (∀ i, i < j → hq_gi s 215 i = Int32.ofNat (a i)) → ∃ v s', f_X12_laysPosts_G N d 0 (Int32.ofNat j) s = some (v, s') ∧ lp_D n g nx j a v s' ∧ (∀ i, i < j → hq_gi s' 215 i = Int32.ofNat (a i)) ∧ ∀ c i, ¬ c = 215 → hq_gi s' c i = hq_gi s c i := by
  intro e
  induction e with
  | zero =>
    intro j d a s hj hd M ha D
    obtain ⟨d, rfl⟩ : ∃ x, d = x + 1 := ⟨d - 1, by omega⟩
    have hj : j = g := by omega
    subst hj
    obtain ⟨v, v1, v2⟩ := lp_10 (N := N) (R0 := f_X12_laysPosts_G N d 0) (a1 := Int32.ofNat j) hN hn hg hK M ha D n 0 N (by omega) (by omega) (fun c' h => by omega)
    have v1 : f_X12_laysPosts_L10 N (f_X12_laysPosts_G N d 0) N (Int32.ofNat j) 0 s = some (v, s) := v1
    have un : f_X12_laysPosts_G N (d + 1) 0 (Int32.ofNat j) s = f_X12_laysPosts_S N (f_X12_laysPosts_G N d 0) (Int32.ofNat j) s := rfl
    have run : f_X12_laysPosts_G N (d + 1) 0 (Int32.ofNat j) s = some (v, s) := by
      rw [un]
      unfold f_X12_laysPosts_S
      rw [M.1.2.1, if_pos rfl, v1]
    rcases v2 with ⟨rfl, v2⟩ | ⟨rfl, v2⟩
    · refine ⟨1, s, run, Or.inl ⟨rfl, a, ⟨fun _ _ => rfl, fun i h1 h2 => by omega, v2⟩, D, fun q' h => ?_⟩, D, fun _ _ _ => rfl⟩
      rw [enc_cg j h.1]
      exact Nat.le_refl _
    · refine ⟨0, s, run, Or.inr ⟨rfl, fun q' h => v2 fun c hc => ?_⟩, D, fun _ _ _ => rfl⟩
      obtain ⟨k, hk⟩ := h.2.2 c hc
      exact ⟨k, (cL_cg h.1 k c).mp hk⟩
  | succ e ih =>
    intro j d a s hj hd M ha D
    obtain ⟨d, rfl⟩ : ∃ x, d = x + 1 := ⟨d - 1, by omega⟩
    have un : f_X12_laysPosts_G N (d + 1) 0 (Int32.ofNat j) s = f_X12_laysPosts_S N (f_X12_laysPosts_G N d 0) (Int32.ofNat j) s := rfl
    have nj : ¬ Int32.ofNat j = Int32.ofNat g := by rw [nn_inj (by omega) (by omega)]; omega
    -- where the loop begins
    obtain ⟨b, b1, b2, b3⟩ : ∃ b, b ≤ n ∧ (if Int32.ofNat j = 0 then some (0 : Int32) else (hq_ld s 215 3 (Int32.ofNat j - 1)).bind fun x4 => some x4) = some (Int32.ofNat b) ∧ ∀ q', lp_ok n g nx j a q' → b ≤ q' j := by
      by_cases z : j = 0
      · refine ⟨0, by omega, ?_, fun q' _ => by omega⟩
        rw [if_pos (by rw [z]; rfl)]
        rfl
      · obtain ⟨i, rfl⟩ : ∃ i, j = i + 1 := ⟨j - 1, by omega⟩
        have z1 : ¬ Int32.ofNat (i + 1) = 0 := by rw [nb_eq0 (by omega)]; omega
        refine ⟨a i, by have := ha i (by omega); omega, ?_, fun q' h => ?_⟩
        · rw [if_neg z1, nn_pred, nn_ld (by omega) (by omega), D i (by omega), Option.bind_some]
        · have h1 := (h.2.1 (i + 1) (Nat.le_refl _) (by omega)).2 i rfl
          rw [h.1 i (by omega)] at h1
          exact h1
    have loop : ∀ (q d1 m : Nat) (s1 : hq_S), d1 + q = n → q < m → b ≤ d1 → cM n g nx K s1 → (∀ i, i < j → hq_gi s1 215 i = Int32.ofNat (a i)) → (∀ q', lp_ok n g nx j a q' → d1 ≤ q' j) → ∃ v s', f_X12_laysPosts_L65 N (f_X12_laysPosts_G N d 0) m (Int32.ofNat j) (Int32.ofNat d1) s1 = some (v, s') ∧ lp_D n g nx j a v s' ∧ (∀ i, i < j → hq_gi s' 215 i = Int32.ofNat (a i)) ∧ ∀ c i, ¬ c = 215 → hq_gi s' c i = hq_gi s1 c i := by
      intro q
      induction q with
      | zero =>
        intro d1 m s1 hd1 hm hb M1 D1 no
        obtain ⟨m, rfl⟩ : ∃ x, m = x + 1 := ⟨m - 1, by omega⟩
        have cc : ¬ Int32.ofNat d1 < Int32.ofNat n := by rw [nn_lt (by omega) (by omega)]; omega
        refine ⟨0, s1, ?_, Or.inr ⟨rfl, fun q' h => ?_⟩, D1, fun _ _ _ => rfl⟩
        · rw [f_X12_laysPosts_L65_s]
          unfold f_X12_laysPosts_L65_B
          rw [cm_n M1.1, Option.bind_some, if_neg cc]
        · have h1 := no q' h
          have h2 := (h.2.1 j (Nat.le_refl _) (by omega)).1
          omega
      | succ q ih2 =>
        intro d1 m s1 hd1 hm hb M1 D1 no
        obtain ⟨m, rfl⟩ : ∃ x, m = x + 1 := ⟨m - 1, by omega⟩
        have cc : Int32.ofNat d1 < Int32.ofNat n := (nn_lt (by omega) (by omega)).mpr (by omega)
        have st : hq_st s1 215 3 (Int32.ofNat j) (Int32.ofNat d1) = some (hq_si s1 215 j (Int32.ofNat d1)) := nn_st (by omega) (by omega)
        have ow : ∀ c i, ¬ c = 215 → hq_gi (hq_si s1 215 j (Int32.ofNat d1)) c i = hq_gi s1 c i := fun c i h => by rw [nb_ii, if_neg (fun z => h z.1)]
        obtain ⟨v, s2, f1, f2, f3, f4⟩ := ih (j + 1) d (pud a j d1) (hq_si s1 215 j (Int32.ofNat d1)) (by omega) (by omega) ⟨cm_F_k (fun c i h => ow c i (by omega)) M1.1, fun y hy => by rw [ow _ _ (by omega)]; exact M1.2.1 y hy, M1.2.2⟩ (fun i hi => by
          by_cases e : i = j
          · rw [e, pud_i]; omega
          · rw [pud_n e]; exact ha i (by omega)) (fun i hi => by
          rw [nb_ii]
          by_cases e : i = j
          · rw [if_pos ⟨rfl, e⟩, e, pud_i]
          · rw [if_neg (fun z => e z.2), pud_n e]; exact D1 i (by omega))
        have keep : ∀ i, i < j → hq_gi s2 215 i = Int32.ofNat (a i) := fun i hi => by
          have := f3 i (by omega)
          rw [pud_n (by omega)] at this
          exact this
        have kk : ∀ c i, ¬ c = 215 → hq_gi s2 c i = hq_gi s1 c i := fun c i h => (f4 c i h).trans (ow c i h)
        have conv : ∀ q', (lp_ok n g nx (j + 1) (pud a j d1) q' ↔ (lp_ok n g nx j a q' ∧ q' j = d1)) := fun q' => by
          constructor
          · rintro ⟨h1, h2, h3⟩
            have hj' := h1 j (by omega)
            rw [pud_i] at hj'
            refine ⟨⟨fun i hi => by have := h1 i (by omega); rw [pud_n (by omega)] at this; exact this, fun i hi hi2 => ?_, h3⟩, hj'⟩
            by_cases e : i = j
            · rw [e, hj']
              refine ⟨by omega, fun h hh => ?_⟩
              have h4 := h1 h (by omega)
              rw [pud_n (by omega)] at h4
              rw [h4]
              -- b is the post before
              have bb : a h ≤ b := by
                have z1 : ¬ Int32.ofNat j = 0 := by rw [nb_eq0 (by omega)]; omega
                rw [if_neg z1, ← hh, nn_pred, nn_ld (by omega) (by omega), D h (by omega), Option.bind_some] at b2
                have := (nn_inj (by have := ha h (by omega); omega) (by omega)).mp (Option.some.inj b2)
                omega
              omega
            · exact h2 i (by omega) hi2
          · rintro ⟨⟨h1, h2, h3⟩, h4⟩
            refine ⟨fun i hi => ?_, fun i hi hi2 => h2 i (by omega) hi2, h3⟩
            by_cases e : i = j
            · rw [e, pud_i]; exact h4
            · rw [pud_n e]; exact h1 i (by omega)
        rcases f2 with ⟨rfl, qq, h1, h2, h3⟩ | ⟨rfl, h1⟩
        · have d10 : ¬ (1 : Int32) = 0 := by decide
          obtain ⟨g1, g2⟩ := (conv qq).mp h1
          refine ⟨1, s2, ?_, Or.inl ⟨rfl, qq, g1, h2, fun q' hq' => ?_⟩, keep, kk⟩
          · rw [f_X12_laysPosts_L65_s]
            unfold f_X12_laysPosts_L65_B
            rw [cm_n M1.1, Option.bind_some, if_pos cc, st, Option.bind_some, nn_succ, f1, Option.bind_some, if_neg d10]
          · have le := no q' hq'
            by_cases e : q' j = d1
            · exact h3 q' ((conv q').mpr ⟨hq', e⟩)
            · refine Nat.le_of_lt (enc_lex (j := j) g (by omega) (fun i hi => by rw [g1.1 i hi, hq'.1 i hi]) (by rw [g2]; omega) (fun i hi => ?_))
              by_cases e2 : i < j
              · rw [g1.1 i e2]; exact ha i e2
              · exact (g1.2.1 i (by omega) hi).1
        · obtain ⟨v, s', e1, e2, e3, e4⟩ := ih2 (d1 + 1) m s2 (by omega) (by omega) (by omega) ⟨cm_F_k (fun c i h => kk c i (by omega)) M1.1, fun y hy => by rw [kk _ _ (by omega)]; exact M1.2.1 y hy, M1.2.2⟩ keep (fun q' hq' => by
            have le := no q' hq'
            by_cases e : q' j = d1
            · exact absurd ((conv q').mpr ⟨hq', e⟩) (h1 q')
            · omega)
          refine ⟨v, s', ?_, e2, e3, fun c i h => (e4 c i h).trans (kk c i h)⟩
          rw [← e1, f_X12_laysPosts_L65_s]
          unfold f_X12_laysPosts_L65_B
          rw [cm_n M1.1, Option.bind_some, if_pos cc, st, Option.bind_some, nn_succ, f1, Option.bind_some, if_pos rfl, nn_succ]
    obtain ⟨v, s', e1, e2⟩ := loop (n - b) b N s (by omega) (by omega) (Nat.le_refl _) M D b3
    refine ⟨v, s', ?_, e2⟩
    rw [un]
    unfold f_X12_laysPosts_S
    rw [M.1.2.1, if_neg nj, b2, Option.bind_some, e1]
/-- the fewest, and the first row of them -/
theorem fw_18 (hN : 10300 < N) (h1 : 1 ≤ n) (hn : n ≤ 10) (hnx : ∀ c, nx c < 2 ^ n) : ∀ (q m f : Nat) (s : hq_S), m + q = 4 → q < f → 1 ≤ m → hl_R n nx s → (∀ i, i < 5 → hq_gi s 212 i = Int32.ofNat (10 ^ i)) → (∀ g', 1 ≤ g' → g' < m → ∀ r', ¬ cPG n g' (tnx nx) r') → ∃ v s', f_X12_fewestPosts_L18 N f (Int32.ofNat m) s = some (v, s') ∧ ((∃ g r, 1 ≤ g ∧ g ≤ 3 ∧ v = Int32.ofNat g ∧ cPG n g (tnx nx) r ∧ (∀ r', r' < r → ¬ cPG n g (tnx nx) r') ∧ (∀ g', 1 ≤ g' → g' < g → ∀ r', ¬ cPG n g' (tnx nx) r') ∧ ∀ i, i < g → hq_gi s' 215 i = Int32.ofNat (dgs n g r i)) ∨ (v = -2 ∧ ∀ g', 1 ≤ g' → g' ≤ 3 → ∀ r', ¬ cPG n g' (tnx nx) r')) := by
  intro q
  induction q with
  | zero =>
    intro m f s hm hf m1 L P no
    obtain ⟨f, rfl⟩ : ∃ j, f = j + 1 := ⟨f - 1, by omega⟩
    have cc : (3 : Int32) < Int32.ofNat m := by rw [nb_lit 3, nn_lt (by omega) (by omega)]; omega
    refine ⟨-2, s, ?_, Or.inr ⟨rfl, fun g' a b r' => no g' a (by omega) r'⟩⟩
    rw [f_X12_fewestPosts_L18_s]
    unfold f_X12_fewestPosts_L18_B
    rw [if_pos cc]
  | succ q ih =>
    intro m f s hm hf m1 L P no
    obtain ⟨f, rfl⟩ : ∃ j, f = j + 1 := ⟨f - 1, by omega⟩
    have cc : ¬ (3 : Int32) < Int32.ofNat m := by rw [nb_lit 3, nn_lt (by omega) (by omega)]; omega
    obtain ⟨K, s1, k1, e1, e2, e3⟩ := ly_all (N := N) (g := m) hN h1 hn m1 (by omega) hnx L P
    obtain ⟨v, s2, f1, f2, -, f4⟩ := lp_all (N := N) (n := n) (g := m) (nx := nx) (by omega) hn (by omega) k1 m 0 10 (fun _ => 0) s1 (by omega) (by omega) e2 (fun i hi => by omega) (fun i hi => by omega)
    have f1 : f_X12_laysPosts N 0 s1 = some (v, s2) := f1
    have toP : ∀ q', lp_ok n m nx 0 (fun _ => 0) q' → cPG n m (tnx nx) (enc n q' m) := fun q' h => by
      have hq : ∀ j, j < m → q' j < n := fun j hj => (h.2.1 j (by omega) hj).1
      refine ⟨enc_lt m hq, fun c hc => ?_⟩
      obtain ⟨k, hk⟩ := h.2.2 c hc
      exact ⟨k, (cL_cg (dgs_enc m hq) k c).mpr hk⟩
    have ofP : ∀ r, cPG n m (tnx nx) r → (∀ r', r' < r → ¬ cPG n m (tnx nx) r') → lp_ok n m nx 0 (fun _ => 0) (dgs n m r) := fun r hP hno => ⟨fun i hi => by omega, fun i _ hi => ⟨dgs_lt (by omega) m r i hi, fun h hh => by rw [← hh]; exact cPG_up h1 hP hno h (by omega)⟩, hP.2⟩
    -- a least row, where there is one
    have least : ∀ b r, r < b → cPG n m (tnx nx) r → ∃ r, cPG n m (tnx nx) r ∧ ∀ r', r' < r → ¬ cPG n m (tnx nx) r' := by
      intro b
      induction b with
      | zero => intro r h; omega
      | succ b ihb =>
        intro r hr hP
        by_cases z : ∃ r', r' < r ∧ cPG n m (tnx nx) r'
        · obtain ⟨r', h1, h2⟩ := z
          exact ihb r' (by omega) h2
        · exact ⟨r, hP, fun r' h1 h2 => z ⟨r', h1, h2⟩⟩
    rcases f2 with ⟨rfl, qq, g1, g2, g3⟩ | ⟨rfl, g1⟩
    · have d10 : ¬ (1 : Int32) = 0 := by decide
      have hq : ∀ j, j < m → qq j < n := fun j hj => (g1.2.1 j (by omega) hj).1
      obtain ⟨r, r1, r2⟩ := least _ _ (Nat.lt_succ_self _) (toP qq g1)
      have le1 := g3 _ (ofP r r1 r2)
      rw [enc_dgs (by omega) m r r1.1] at le1
      have er : enc n qq m = r := by
        by_cases lt : enc n qq m < r
        · exact absurd (toP qq g1) (r2 _ lt)
        · omega
      refine ⟨Int32.ofNat m, s2, ?_, Or.inl ⟨m, r, m1, by omega, rfl, r1, r2, no, fun i hi => ?_⟩⟩
      · rw [f_X12_fewestPosts_L18_s]
        unfold f_X12_fewestPosts_L18_B
        rw [if_neg cc, e1, Option.bind_some, f1, Option.bind_some, if_neg d10]
      · rw [g2 i hi, ← er, dgs_enc m hq i hi]
    · obtain ⟨v, s', h2, h3⟩ := ih (m + 1) f s2 (by omega) (by omega) (by omega) ⟨by rw [f4 _ _ (by omega), e3 _ _ (by omega) (by omega)]; exact L.1, fun d hd => by rw [f4 _ _ (by omega), e3 _ _ (by omega) (by omega)]; exact L.2 d hd⟩ (fun i hi => by rw [f4 _ _ (by omega), e3 _ _ (by omega) (by omega)]; exact P i hi) (fun g' a b r' hP => by
        by_cases e : g' = m
        · subst e
          obtain ⟨r, r1, r2⟩ := least (r' + 1) r' (by omega) hP
          exact g1 _ (ofP r r1 r2)
        · exact no g' a (by omega) r' hP)
      refine ⟨v, s', ?_, h3⟩
      rw [← h2, f_X12_fewestPosts_L18_s]
      unfold f_X12_fewestPosts_L18_B
      rw [if_neg cc, e1, Option.bind_some, f1, Option.bind_some, if_pos rfl, nn_succ]
end
section
variable {N nc nl ng nt t bar : Nat} {fr to on : Nat → Nat} {sx sm : hq_S}
/-- both find the posts -/
theorem tk_both (hN : 10300 < N) (h1 : 1 ≤ nc) (I : hr_idle sm) (H : hC sx) (T : hr_T nc nl ng nt t bar fr to on sx sm) : ∃ sx1 v sm1, f_X0_findPosts N 103 sx = some sx1 ∧ hCn nc (tnx (ly_nx fr to on bar false nl)) sx1 ∧ f_X12_fewestPosts N sm = some (v, sm1) ∧ ((∃ g r, 1 ≤ g ∧ g ≤ 3 ∧ r < 1000 ∧ v = Int32.ofNat g ∧ hq_gi sx1 152 10 = Int32.ofNat g ∧ hq_gi sx1 152 11 = Int32.ofNat r ∧ ∀ i, i < g → hq_gi sm1 215 i = Int32.ofNat (dgs nc g r i)) ∨ (v = -2 ∧ hq_gi sx1 152 10 = 0)) := by
  obtain ⟨⟨t1, t2, t3⟩, ⟨⟨b1, b2, b3, b4⟩, ⟨c1, c2, -, -, g1, g2, -, -⟩, -⟩, ⟨X, M, S, F, B, Bl⟩, W, -⟩ := T
  have hx := ly_nx_lt (fr := fr) (to := to) (on := on) (bar := bar) (both := false) (nc := nc) (n := nl) fun k hk => ⟨(M.2.2.2.2 k hk).1, (M.2.2.2.2 k hk).2.1⟩
  obtain ⟨gg, f, e1, e2, e3⟩ := hm_lays (N := N) (l := 0) (both := false) (by omega) (by omega) ⟨fun h => (by cases h), fun h => absurd h (by rw [I.1]; decide)⟩ B (by omega) M
  have e1 : f_X12_lays N 0 sm = some (hq_w (hq_w sm 206 gg) 207 f) := e1
  generalize hw : hq_w (hq_w sm 206 gg) 207 f = w at e1
  have w0 : ∀ c i, ¬ c = 206 → ¬ c = 207 → hq_gi w c i = hq_gi sm c i := fun c i h1 h2 => by rw [← hw, hw_n h2, hw_n h1]
  have Rw : hl_R nc (ly_nx fr to on bar false nl) w := ⟨by rw [w0 _ _ (by omega) (by omega)]; exact c2, fun c hc => by rw [← hw, hw_n (by omega), hw_g]; exact e2 c hc⟩
  have Pw : ∀ i, i < 5 → hq_gi w 212 i = Int32.ofNat (10 ^ i) := fun i hi => by
    rw [w0 _ _ (by omega) (by omega)]
    obtain ⟨-, -, -, i0, i1, i2, i3, i4⟩ := I
    rcases (show i = 0 ∨ i = 1 ∨ i = 2 ∨ i = 3 ∨ i = 4 by omega) with rfl | rfl | rfl | rfl | rfl
    · exact i0
    · exact i1
    · exact i2
    · exact i3
    · exact i4
  obtain ⟨sx1, f1, f2, f3, -⟩ := fp_all (N := N) hN h1 b1 hx H S
  obtain ⟨v, sm1, k1, k2⟩ := fw_18 (N := N) hN h1 b1 hx 3 1 N w (by omega) (by omega) (by omega) Rw Pw (fun g' a b => by omega)
  have k1 : f_X12_fewestPosts_L18 N N 1 w = some (v, sm1) := k1
  have l0 : hq_ld sm 176 14 0 = some (Int32.ofNat nc) := by rw [nb_0, nn_ld (by omega) (by omega)]; exact congrArg some c2
  have n0 : ¬ Int32.ofNat nc = 0 := by rw [nb_eq0 (by omega)]; omega
  refine ⟨sx1, v, sm1, f1, f2, ?_, ?_⟩
  · unfold f_X12_fewestPosts
    rw [l0, Option.bind_some, if_neg n0, e1, Option.bind_some, k1]
  · rcases f3 with ⟨g, r, h1', h2, h3, h4, h5, h6, h7⟩ | ⟨h3, h4⟩ <;> rcases k2 with ⟨g', r', j1, j2, j3, j4, j5, j6, j7⟩ | ⟨j3, j4⟩
    · have eg : g = g' := by
        by_cases a : g < g'
        · exact absurd h5 (j6 g h1' a r)
        · by_cases b : g' < g
          · exact absurd j4 (h7 g' j1 b r')
          · omega
      subst eg
      have er : r = r' := by
        by_cases a : r < r'
        · exact absurd h5 (j5 r a)
        · by_cases b : r' < r
          · exact absurd j4 (h6 r' b)
          · omega
      subst er
      exact Or.inl ⟨g, r, h1', h2, by have := h5.1; have := (cB_M (tnx_B h1 b1 hx h1' h2)).1; omega, j3, h3, h4, j7⟩
    · exact absurd h5 (j4 g h1' h2 r)
    · exact absurd j4 (h4 g' j1 j2 r')
    · exact Or.inr ⟨j3, h3⟩
end
theorem hs_op_22 {N : Nat} (hN : 10300 < N) : hq_Sim (hR hC) (f_X11_takers N) (f_X12_takers N) := fun sx sm R => by
  have R2 := hR_th hC_loc (x := 0) R
  have H := R.2.2.2.2.1
  obtain ⟨nc, nl, ng, nt, t, bar, fr, to, on, TT⟩ := R.2.2.2.2.2
  obtain ⟨I, T⟩ := hT_th 0 R.2.2.1 TT
  have T0 := T
  obtain ⟨⟨t1, t2, t3⟩, ⟨⟨b1, b2, b3, b4⟩, ⟨c1, c2, -, -, g1, g2, d1, d2⟩, -⟩, -⟩ := T
  have iT : hq_isT t := t2
  have fin : ∀ v sx' sm', f_X11_takers N sx = some (v, sx') → f_X12_takers N sm = some (v, sm') → hC sx' → ∃ v sx' sm', f_X11_takers N sx = some (v, sx') ∧ f_X12_takers N sm = some (v, sm') ∧ hR hC sx' sm' := fun v sx' sm' ex em hC' => by
    have kx := f_X11_takers_fw ex
    have km := f_X12_takers_fw em
    exact ⟨v, sx', sm', ex, em, hR_kc (kx.kp (by decide)) (km.kp (by decide)) (hm_o_fc (by decide) km) hC' R⟩
  by_cases z : nc = 0
  · have z1 : Int32.ofNat nc = 0 := by rw [z]; rfl
    have l0 : hq_ld (hq_si sm 174 0 0) 176 14 0 = some (Int32.ofNat nc) := by rw [nb_0, nn_ld (by omega) (by omega)]; exact congrArg some c2
    refine ⟨0, sx, hq_si sm 174 0 0, ?_, ?_, R2⟩
    · unfold f_X11_takers
      rw [t1, if_pos iT, c1, if_pos z1]
    · unfold f_X12_takers f_X12_fewestPosts
      rw [nn_pi, Option.bind_some, l0, Option.bind_some, if_pos z1, Option.bind_some]
  · have z1 : ¬ Int32.ofNat nc = 0 := by rw [nb_eq0 (by omega)]; exact z
    obtain ⟨sx1, v, sm1, e1, e2, e3, e4⟩ := tk_both (N := N) hN (by omega) I H T0
    have em : f_X12_takers N sm = some (v, sm1) := by
      unfold f_X12_takers
      rw [nn_pi, Option.bind_some, e3, Option.bind_some]
    refine fin v sx1 sm1 ?_ em ⟨_, _, e2⟩
    unfold f_X11_takers
    rw [t1, if_pos iT, c1, if_neg z1, e1, Option.bind_some]
    rcases e4 with ⟨g, r, h1, h2, -, h3, h4, -, -⟩ | ⟨h3, h4⟩
    · have g0 : ¬ Int32.ofNat g = 0 := by rw [nb_eq0 (by omega)]; omega
      rw [h4, if_neg g0, h3]
    · rw [if_pos h4, h3]
theorem hs_op_23 {N : Nat} (hN : 10300 < N) (a1 : Int32) : hq_Sim (hR hC) (f_X11_post N a1) (f_X12_post N a1) := fun sx sm R => by
  have R2 := hR_th hC_loc (x := 0) R
  have H := R.2.2.2.2.1
  obtain ⟨nc, nl, ng, nt, t, bar, fr, to, on, TT⟩ := R.2.2.2.2.2
  obtain ⟨I, T⟩ := hT_th 0 R.2.2.1 TT
  have T0 := T
  obtain ⟨⟨t1, t2, t3⟩, ⟨⟨b1, b2, b3, b4⟩, ⟨c1, c2, -, -, g1, g2, d1, d2⟩, -⟩, -⟩ := T
  have iT : hq_isT t := t2
  have fin : ∀ v sx' sm', f_X11_post N a1 sx = some (v, sx') → f_X12_post N a1 sm = some (v, sm') → hC sx' → ∃ v sx' sm', f_X11_post N a1 sx = some (v, sx') ∧ f_X12_post N a1 sm = some (v, sm') ∧ hR hC sx' sm' := fun v sx' sm' ex em hC' => by
    have kx := f_X11_post_fw ex
    have km := f_X12_post_fw em
    exact ⟨v, sx', sm', ex, em, hR_kc (kx.kp (by decide)) (km.kp (by decide)) (hm_o_fc (by decide) km) hC' R⟩
  by_cases a0 : a1 < 0
  · exact ⟨-1, sx, hq_si sm 174 0 0, by unfold f_X11_post; rw [if_pos a0], by unfold f_X12_post; rw [nn_pi, Option.bind_some, if_pos a0], R2⟩
  by_cases z : nc = 0
  · have z1 : Int32.ofNat nc = 0 := by rw [z]; rfl
    have l0 : hq_ld (hq_si sm 174 0 0) 176 14 0 = some (Int32.ofNat nc) := by rw [nb_0, nn_ld (by omega) (by omega)]; exact congrArg some c2
    refine ⟨-2, sx, hq_si sm 174 0 0, ?_, ?_, R2⟩
    · unfold f_X11_post f_X11_takers
      rw [if_neg a0, t1, if_pos iT, c1, if_pos z1, Option.bind_some, if_neg a0]
    · unfold f_X12_post f_X12_fewestPosts
      rw [nn_pi, Option.bind_some, if_neg a0, l0, Option.bind_some, if_pos z1, Option.bind_some, if_neg a0]
  · have z1 : ¬ Int32.ofNat nc = 0 := by rw [nb_eq0 (by omega)]; exact z
    obtain ⟨sx1, v, sm1, e1, e2, e3, e4⟩ := tk_both (N := N) hN (by omega) I H T0
    have tk : f_X11_takers N sx = some (v, sx1) := by
      unfold f_X11_takers
      rw [t1, if_pos iT, c1, if_neg z1, e1, Option.bind_some]
      rcases e4 with ⟨g, r, h1, h2, -, h3, h4, -, -⟩ | ⟨h3, h4⟩
      · have g0 : ¬ Int32.ofNat g = 0 := by rw [nb_eq0 (by omega)]; omega
        rw [h4, if_neg g0, h3]
      · rw [if_pos h4, h3]
    by_cases lt : a1 < v
    · rcases e4 with ⟨g, r, h1, h2, h3, rfl, h5, h6, h7⟩ | ⟨rfl, -⟩
      · obtain ⟨j, hj, rfl⟩ : ∃ j, j < g ∧ a1 = Int32.ofNat j := by
          rcases nn_le (a := a1) (n := 100) (by omega) with ⟨j, hj, rfl, -, -⟩ | h | ⟨-, h⟩
          · rw [nn_lt (by omega) (by omega)] at lt
            exact ⟨j, lt, rfl⟩
          · exact absurd h a0
          · rw [Int32.lt_iff_toInt_lt, nn_toInt (by omega)] at lt
            rw [Int32.lt_iff_toInt_lt, nn_toInt (by omega)] at h
            omega
        have su : (Int32.ofNat g - 1) - Int32.ofNat j = Int32.ofNat (g - 1 - j) := by rw [nb_lit 1, nb_sub (by omega), nb_sub (by omega)]
        have ci := ci_all (N := N) (n := nc) (b := g - 1 - j) (g := g) (r := r) (s := sx1) (by omega) (by omega) b1 (by omega) h2 (by omega) e2.2.1
        rw [show g - 1 - (g - 1 - j) = j by omega] at ci
        have ld : hq_ld sm1 215 3 (Int32.ofNat j) = some (Int32.ofNat (dgs nc g r j)) := by rw [nn_ld (by omega) (by omega), h7 j hj]
        refine fin (Int32.ofNat (dgs nc g r j)) sx1 sm1 ?_ ?_ ⟨_, _, e2⟩
        · unfold f_X11_post
          rw [if_neg a0, tk, Option.bind_some, if_pos lt, h6, su, ci, Option.bind_some]
        · unfold f_X12_post
          rw [nn_pi, Option.bind_some, if_neg a0, e3, Option.bind_some, if_pos lt, ld, Option.bind_some]
      · refine absurd lt fun h => a0 ?_
        rw [Int32.lt_iff_toInt_lt] at h ⊢
        have y : (-2 : Int32).toInt = -2 := by decide
        have y0 : (0 : Int32).toInt = 0 := by decide
        rw [y] at h
        rw [y0]
        omega
    · refine fin (-2) sx1 sm1 ?_ ?_ ⟨_, _, e2⟩
      · unfold f_X11_post
        rw [if_neg a0, tk, Option.bind_some, if_neg lt]
      · unfold f_X12_post
        rw [nn_pi, Option.bind_some, if_neg a0, e3, Option.bind_some, if_neg lt]
