/-! THE REFERENCE'S NIGHTS -/
section
variable {N nc n : Nat} {mv nx : Nat → Nat} {s : hq_S}
theorem sw_neg {a : Nat} (h1 : 1 ≤ a) (h2 : a < 100000) : -(Int32.ofNat a) < 0 := by
  rw [Int32.lt_iff_toInt_lt, Int32.toInt_neg, nn_toInt (by omega)]
  have e : (-(a : Int)).bmod (2 ^ 32) = -(a : Int) := by
    rw [Int.bmod_eq_of_le] <;> omega
  rw [e]
  have z : (0 : Int32).toInt = 0 := by decide
  rw [z]
  omega
theorem sw_neg1 {a : Nat} (h1 : 2 ≤ a) (h2 : a < 100000) : ¬ -(Int32.ofNat a) = -1 := fun e => by
  have e2 : - -(Int32.ofNat a) = - -1 := congrArg Neg.neg e
  rw [Int32.neg_neg] at e2
  have e3 : Int32.ofNat a = Int32.ofNat 1 := e2
  have := (nn_inj (by omega) (by omega)).mp e3
  omega
theorem sm_moved {S : Nat} (hN : 100 < N) (hnc : nc ≤ 10) (hx : ∀ c, nx c < 2 ^ nc) (hS : S < 2 ^ nc) (L : hl_R nc nx s) : f_X12_moved N (Int32.ofNat S) s = some (Int32.ofNat (mvs nx S nc), s) := by
  have hS2 := nb_1024 hnc hS
  have l0 : hq_ld s 176 14 0 = some (Int32.ofNat nc) := by rw [nb_0, nn_ld (by omega) (by omega), L.1]
  have key : ∀ (q c m : Nat), c + q = nc → q < m → f_X12_moved_L4 N m (Int32.ofNat S) (Int32.ofNat (mvs nx S c)) (Int32.ofNat c) s = some (Int32.ofNat (mvs nx S nc), s) := by
    intro q
    induction q with
    | zero =>
      intro c m hc hm
      obtain ⟨m, rfl⟩ : ∃ k, m = k + 1 := ⟨m - 1, by omega⟩
      have cc : ¬ Int32.ofNat c < Int32.ofNat nc := by rw [nn_lt (by omega) (by omega)]; omega
      have e : c = nc := by omega
      simp only [f_X12_moved_L4_s, f_X12_moved_L4_B, l0, Option.bind_some, if_neg cc]
      rw [e]
    | succ q ih =>
      intro c m hc hm
      obtain ⟨m, rfl⟩ : ∃ k, m = k + 1 := ⟨m - 1, by omega⟩
      have cc : Int32.ofNat c < Int32.ofNat nc := (nn_lt (by omega) (by omega)).mpr (by omega)
      have b1 := nb_bit1 (show S < 2147483648 by omega) (show c < 32 by omega)
      have ld : hq_ld s 206 10 (Int32.ofNat c) = some (Int32.ofNat (nx c)) := by rw [nn_ld (by omega) (by omega), L.2 c (by omega)]
      have n0 : (Int32.ofNat (nx c) = 0) = (nx c = 0) := nb_eq0 (by have := nb_1024 hnc (hx c); omega)
      rw [← ih (c + 1) m (by omega) (by omega), mvs]
      by_cases q1 : S.testBit c = true
      · by_cases q2 : nx c = 0
        · simp only [f_X12_moved_L4_s, f_X12_moved_L4_B, l0, Option.bind_some, if_pos cc, b1, if_pos q1, ld, n0, if_pos q2, nb_one (show c < 32 by omega), nb_or, nn_succ, mv_n]
        · simp only [f_X12_moved_L4_s, f_X12_moved_L4_B, l0, Option.bind_some, if_pos cc, b1, if_pos q1, ld, n0, if_neg q2, nb_or, nn_succ, mv_n]
      · simp only [f_X12_moved_L4_s, f_X12_moved_L4_B, l0, Option.bind_some, if_pos cc, b1, if_neg q1, nn_succ]
  exact key nc 0 N (by omega) (by omega)
theorem nb_dfdf {S L : Nat} (h : nb_su L S) : nb_df S (nb_df S L) = L := nb_ext fun i => by
  rw [nb_df_t, nb_df_t]
  cases z : L.testBit i with
  | false => cases S.testBit i <;> rfl
  | true => rw [h i z]; rfl
theorem nb_df_su (S L : Nat) : nb_su (nb_df S L) S := fun i hi => by
  rw [nb_df_t, Bool.and_eq_true] at hi
  exact hi.1
theorem sm_swept {k S : Nat} (hN : 1100 < N) (hnc : nc ≤ 10) (hn : n ≤ 10) (hS : S < 2 ^ nc) (hm : ∀ S, S < 2 ^ nc → mv S < 2 ^ nc) (h217 : ∀ S, S < 2 ^ nc → hq_gi s 217 S = Int32.ofNat (mv S)) (h216 : ∀ S, S < 2 ^ nc → (hq_gi s 216 S < 0 ↔ sw mv n k S = false)) : ∃ v, f_X12_isSwept N (Int32.ofNat S) (Int32.ofNat n) (Int32.ofNat (2 ^ nc - 1)) s = some (v, s) ∧ ((v = 1 ∧ ∃ R, nb_su R S ∧ nb_pop (nb_df S R) 20 ≤ n ∧ sw mv n k (mv R) = true) ∨ (v = 0 ∧ ¬ ∃ R, nb_su R S ∧ nb_pop (nb_df S R) 20 ≤ n ∧ sw mv n k (mv R) = true)) := by
  have p10 : (2 : Nat) ^ nc ≤ 1024 := Nat.pow_le_pow_right (by omega) (show nc ≤ 10 by omega)
  have p0 : 0 < (2 : Nat) ^ nc := Nat.two_pow_pos nc
  have key : ∀ (q L m : Nat), L + q = 2 ^ nc → q < m → (∀ L', L' < L → nb_su L' S → nb_pop L' 20 ≤ n → sw mv n k (mv (nb_df S L')) = false) → ∃ v, f_X12_isSwept_L3 N m (Int32.ofNat S) (Int32.ofNat n) (Int32.ofNat (2 ^ nc - 1)) (Int32.ofNat L) s = some (v, s) ∧ ((v = 1 ∧ ∃ R, nb_su R S ∧ nb_pop (nb_df S R) 20 ≤ n ∧ sw mv n k (mv R) = true) ∨ (v = 0 ∧ ¬ ∃ R, nb_su R S ∧ nb_pop (nb_df S R) 20 ≤ n ∧ sw mv n k (mv R) = true)) := by
    intro q
    induction q with
    | zero =>
      intro L m hL hm' no
      obtain ⟨m, rfl⟩ : ∃ j, m = j + 1 := ⟨m - 1, by omega⟩
      have c : Int32.ofNat (2 ^ nc - 1) < Int32.ofNat L := (nn_lt (by omega) (by omega)).mpr (by omega)
      refine ⟨0, by simp only [f_X12_isSwept_L3_s, f_X12_isSwept_L3_B, if_pos c], Or.inr ⟨rfl, fun ⟨R, h1, h2, h3⟩ => ?_⟩⟩
      have h4 := no (nb_df S R) (by have := nb_su_le (nb_df_su S R); omega) (nb_df_su S R) h2
      rw [nb_dfdf h1, h3] at h4
      cases h4
    | succ q ih =>
      intro L m hL hm' no
      obtain ⟨m, rfl⟩ : ∃ j, m = j + 1 := ⟨m - 1, by omega⟩
      have c : ¬ Int32.ofNat (2 ^ nc - 1) < Int32.ofNat L := by rw [nn_lt (by omega) (by omega)]; omega
      have d1 := nb_df_lt (a := L) (b := S) (k := nc) (by omega)
      have d2 := nb_df_lt (a := S) (b := L) (k := nc) hS
      have e1 : (Int32.ofNat (nb_df L S) = 0) = (nb_df L S = 0) := nb_eq0 (by omega)
      have nx1 : (∀ L', L' < L + 1 → nb_su L' S → nb_pop L' 20 ≤ n → sw mv n k (mv (nb_df S L')) = false) → ∃ v, f_X12_isSwept_J48 N (f_X12_isSwept_L3 N m) (Int32.ofNat S) (Int32.ofNat n) (Int32.ofNat (2 ^ nc - 1)) (Int32.ofNat L) s = some (v, s) ∧ ((v = 1 ∧ ∃ R, nb_su R S ∧ nb_pop (nb_df S R) 20 ≤ n ∧ sw mv n k (mv R) = true) ∨ (v = 0 ∧ ¬ ∃ R, nb_su R S ∧ nb_pop (nb_df S R) 20 ≤ n ∧ sw mv n k (mv R) = true)) := fun h => by
        obtain ⟨v, v1, v2⟩ := ih (L + 1) m (by omega) (by omega) h
        exact ⟨v, by rw [← v1]; simp only [f_X12_isSwept_J48, nn_succ], v2⟩
      have no1 : (nb_su L S → nb_pop L 20 ≤ n → sw mv n k (mv (nb_df S L)) = false) → ∀ L', L' < L + 1 → nb_su L' S → nb_pop L' 20 ≤ n → sw mv n k (mv (nb_df S L')) = false := fun h L' h1 h2 h3 => by
        by_cases e : L' = L
        · rw [e] at h2 h3 ⊢; exact h h2 h3
        · exact no L' (by omega) h2 h3
      by_cases q1 : nb_df L S = 0
      · have q1' := nb_df0.mp q1
        have bi := hb_bits (N := N) (a := L) (s := s) (by omega) (by omega)
        have pl := nb_pop_le L 20
        have lt : (Int32.ofNat n < Int32.ofNat (nb_pop L 20)) = (n < nb_pop L 20) := nb_ltp (by omega) (by omega)
        by_cases q2 : n < nb_pop L 20
        · obtain ⟨v, v1, v2⟩ := nx1 (no1 fun _ h => by omega)
          refine ⟨v, ?_, v2⟩
          rw [← v1]
          simp only [f_X12_isSwept_L3_s, f_X12_isSwept_L3_B, if_neg c, nb_not, e1, if_pos q1, bi, Option.bind_some, lt, if_pos q2]
        · have ml := hm (nb_df S L) d2
          have l1 : hq_ld s 217 1024 (Int32.ofNat (nb_df S L)) = some (Int32.ofNat (mv (nb_df S L))) := by rw [nn_ld (by omega) (by omega), h217 _ d2]
          have l2 : hq_ld s 216 1024 (Int32.ofNat (mv (nb_df S L))) = some (hq_gi s 216 (mv (nb_df S L))) := nn_ld (by omega) (by omega)
          have t := h216 _ ml
          by_cases q3 : hq_gi s 216 (mv (nb_df S L)) < 0
          · obtain ⟨v, v1, v2⟩ := nx1 (no1 fun _ _ => t.mp q3)
            refine ⟨v, ?_, v2⟩
            rw [← v1]
            simp only [f_X12_isSwept_L3_s, f_X12_isSwept_L3_B, if_neg c, nb_not, e1, if_pos q1, bi, Option.bind_some, lt, if_neg q2, l1, l2, if_pos q3]
          · refine ⟨1, by simp only [f_X12_isSwept_L3_s, f_X12_isSwept_L3_B, if_neg c, nb_not, e1, if_pos q1, bi, Option.bind_some, lt, if_neg q2, l1, l2, if_neg q3], Or.inl ⟨rfl, nb_df S L, nb_df_su S L, by rw [nb_dfdf q1']; omega, ?_⟩⟩
            cases z : sw mv n k (mv (nb_df S L)) with
            | true => rfl
            | false => exact absurd (t.mpr z) q3
      · obtain ⟨v, v1, v2⟩ := nx1 (no1 fun h => absurd (nb_df0.mpr h) q1)
        refine ⟨v, ?_, v2⟩
        rw [← v1]
        simp only [f_X12_isSwept_L3_s, f_X12_isSwept_L3_B, if_neg c, nb_not, e1, if_neg q1]
  exact key (2 ^ nc) 0 N (by omega) (by omega) (fun L' h => by omega)
/-- a night laid, those of this night with a minus -/
def sm_2 (mv : Nat → Nat) (n k S : Nat) (x : Int32) : Prop := (∃ j, j ≤ k ∧ se mv n j S ∧ x = Int32.ofNat j) ∨ (sw mv n k S = false ∧ ((x = -(Int32.ofNat (k + 1)) ∧ sw mv n (k + 1) S = true) ∨ (x = -1 ∧ sw mv n (k + 1) S = false)))
theorem sm_2lt {k S : Nat} {x : Int32} (hk : k < 1100) (h : sm_2 mv n k S x) : x < 0 ↔ sw mv n k S = false := by
  rcases h with ⟨j, h1, h2, h3⟩ | ⟨h1, h2⟩
  · constructor
    · intro e
      rw [h3] at e
      exact absurd e (nn_nlt0 (by omega))
    · intro e
      rw [sw_le h1 h2.1] at e
      cases e
  · refine ⟨fun _ => h1, fun _ => ?_⟩
    rcases h2 with ⟨h2, -⟩ | ⟨h2, -⟩
    · rw [h2]; exact sw_neg (by omega) (by omega)
    · rw [h2]; decide
theorem sm_128 {q67 : Int32 → Int32 → Int32 → Int32 → hq_S → Option hq_S} {k : Nat} {a3 : Int32} (hnc : nc ≤ 10) (hk : 1 ≤ k ∧ k < 1100) : ∀ (q r m : Nat) (s : hq_S), r + q = 2 ^ nc → q < m → (∀ S, S < 2 ^ nc → S < r → sv mv n (k + 1) S (hq_gi s 216 S)) → (∀ S, S < 2 ^ nc → r ≤ S → sm_2 mv n k S (hq_gi s 216 S)) → ∃ s', f_X12_laysNights_L128 N q67 m (Int32.ofNat n) (Int32.ofNat (2 ^ nc - 1)) a3 (Int32.ofNat (k + 1)) (Int32.ofNat r) s = q67 (Int32.ofNat n) (Int32.ofNat (2 ^ nc - 1)) a3 (Int32.ofNat (k + 2)) s' ∧ (∀ S, S < 2 ^ nc → sv mv n (k + 1) S (hq_gi s' 216 S)) ∧ ∀ c i, ¬ c = 216 → hq_gi s' c i = hq_gi s c i := by
  have p10 : (2 : Nat) ^ nc ≤ 1024 := Nat.pow_le_pow_right (by omega) (show nc ≤ 10 by omega)
  have p0 : 0 < (2 : Nat) ^ nc := Nat.two_pow_pos nc
  intro q
  induction q with
  | zero =>
    intro r m s hr hm h1 h2
    obtain ⟨m, rfl⟩ : ∃ j, m = j + 1 := ⟨m - 1, by omega⟩
    have c : Int32.ofNat (2 ^ nc - 1) < Int32.ofNat r := (nn_lt (by omega) (by omega)).mpr (by omega)
    exact ⟨s, by simp only [f_X12_laysNights_L128_s, f_X12_laysNights_L128_B, if_pos c, nn_succ], fun S hS => h1 S hS (by omega), fun _ _ _ => rfl⟩
  | succ q ih =>
    intro r m s hr hm h1 h2
    obtain ⟨m, rfl⟩ : ∃ j, m = j + 1 := ⟨m - 1, by omega⟩
    have c : ¬ Int32.ofNat (2 ^ nc - 1) < Int32.ofNat r := by rw [nn_lt (by omega) (by omega)]; omega
    have ld : hq_ld s 216 1024 (Int32.ofNat r) = some (hq_gi s 216 r) := nn_ld (by omega) (by omega)
    have st : hq_st s 216 1024 (Int32.ofNat r) (Int32.ofNat (k + 1)) = some (hq_si s 216 r (Int32.ofNat (k + 1))) := nn_st (by omega) (by omega)
    by_cases q1 : hq_gi s 216 r = -(Int32.ofNat (k + 1))
    · have nw : se mv n (k + 1) r := by
        rcases h2 r (by omega) (Nat.le_refl _) with ⟨j, g1, g2, g3⟩ | ⟨g1, ⟨g2, g3⟩ | ⟨g2, g3⟩⟩
        · rw [g3] at q1
          exact absurd (show Int32.ofNat j < 0 by rw [q1]; exact sw_neg (by omega) (by omega)) (nn_nlt0 (by omega))
        · exact ⟨g3, fun i hi => sw_nf fun z => by rw [sw_le (show i ≤ k by omega) z] at g1; cases g1⟩
        · rw [g2] at q1
          exact absurd q1.symm (sw_neg1 (by omega) (by omega))
      obtain ⟨s', e1, e2, e3⟩ := ih (r + 1) m (hq_si s 216 r (Int32.ofNat (k + 1))) (by omega) (by omega) (fun S hS hr' => by
        rw [nb_ii]
        by_cases z : S = r
        · rw [if_pos ⟨rfl, z⟩, z]; exact Or.inl ⟨k + 1, Nat.le_refl _, nw, rfl⟩
        · rw [if_neg (fun w => z w.2)]; exact h1 S hS (by omega)) (fun S hS hr' => by rw [nb_ii, if_neg (fun w => by omega)]; exact h2 S hS (by omega))
      refine ⟨s', ?_, e2, fun c i h => (e3 c i h).trans (by rw [nb_ii, if_neg (fun z => h z.1)])⟩
      rw [← e1]
      simp only [f_X12_laysNights_L128_s, f_X12_laysNights_L128_B, if_neg c, ld, Option.bind_some, if_pos q1, st, nn_succ]
    · obtain ⟨s', e1, e2, e3⟩ := ih (r + 1) m s (by omega) (by omega) (fun S hS hr' => by
        by_cases z : S = r
        · rw [z]
          rcases h2 r (by omega) (Nat.le_refl _) with ⟨j, g1, g2, g3⟩ | ⟨g1, ⟨g2, g3⟩ | ⟨g2, g3⟩⟩
          · exact Or.inl ⟨j, by omega, g2, g3⟩
          · exact absurd g2 q1
          · exact Or.inr ⟨g2, g3⟩
        · exact h1 S hS (by omega)) (fun S hS hr' => h2 S hS (by omega))
      refine ⟨s', ?_, e2, e3⟩
      rw [← e1]
      simp only [f_X12_laysNights_L128_s, f_X12_laysNights_L128_B, if_neg c, ld, Option.bind_some, if_neg q1, nn_succ]
theorem sm_76 {q67 : Int32 → Int32 → Int32 → Int32 → hq_S → Option hq_S} {k : Nat} (hN : 1100 < N) (hnc : nc ≤ 10) (hn : n ≤ 10) (hk : 1 ≤ k ∧ k < 1100) (hm : ∀ S, S < 2 ^ nc → mv S < 2 ^ nc) : ∀ (q r m : Nat) (a3 : Int32) (s : hq_S), r + q = 2 ^ nc → q < m → (∀ S, S < 2 ^ nc → hq_gi s 217 S = Int32.ofNat (mv S)) → (∀ S, S < 2 ^ nc → S < r → sm_2 mv n k S (hq_gi s 216 S)) → (∀ S, S < 2 ^ nc → r ≤ S → sv mv n k S (hq_gi s 216 S)) → (a3 = 0 ∨ a3 = 1) → (a3 = 1 ↔ ∃ S, S < r ∧ sw mv n k S = false ∧ sw mv n (k + 1) S = true) → ∃ a3' s', f_X12_laysNights_L76 N q67 m (Int32.ofNat n) (Int32.ofNat (2 ^ nc - 1)) a3 (Int32.ofNat (k + 1)) (Int32.ofNat r) s = f_X12_laysNights_L128 N q67 N (Int32.ofNat n) (Int32.ofNat (2 ^ nc - 1)) a3' (Int32.ofNat (k + 1)) 1 s' ∧ (∀ S, S < 2 ^ nc → sm_2 mv n k S (hq_gi s' 216 S)) ∧ (∀ c i, ¬ c = 216 → hq_gi s' c i = hq_gi s c i) ∧ (a3' = 0 ∨ a3' = 1) ∧ (a3' = 1 ↔ ∃ S, S < 2 ^ nc ∧ sw mv n k S = false ∧ sw mv n (k + 1) S = true) := by
  have p10 : (2 : Nat) ^ nc ≤ 1024 := Nat.pow_le_pow_right (by omega) (show nc ≤ 10 by omega)
  have p0 : 0 < (2 : Nat) ^ nc := Nat.two_pow_pos nc
  have d10 : ¬ (1 : Int32) = 0 := by decide
  intro q
  induction q with
  | zero =>
    intro r m a3 s hr hm' h217 h1 h2 h3 h4
    obtain ⟨m, rfl⟩ : ∃ j, m = j + 1 := ⟨m - 1, by omega⟩
    have hr : r = 2 ^ nc := by omega
    have c : Int32.ofNat (2 ^ nc - 1) < Int32.ofNat r := (nn_lt (by omega) (by omega)).mpr (by omega)
    rw [hr] at h4
    exact ⟨a3, s, by simp only [f_X12_laysNights_L76_s, f_X12_laysNights_L76_B, if_pos c], fun S hS => h1 S hS (by omega), fun _ _ _ => rfl, h3, h4⟩
  | succ q ih =>
    intro r m a3 s hr hm' h217 h1 h2 h3 h4
    obtain ⟨m, rfl⟩ : ∃ j, m = j + 1 := ⟨m - 1, by omega⟩
    have c : ¬ Int32.ofNat (2 ^ nc - 1) < Int32.ofNat r := by rw [nn_lt (by omega) (by omega)]; omega
    have ld : hq_ld s 216 1024 (Int32.ofNat r) = some (hq_gi s 216 r) := nn_ld (by omega) (by omega)
    have hr2 := h2 r (by omega) (Nat.le_refl _)
    have lt0 : ∀ S, S < 2 ^ nc → (hq_gi s 216 S < 0 ↔ sw mv n k S = false) := fun S hS => by
      by_cases z : S < r
      · exact sm_2lt hk.2 (h1 S hS z)
      · exact sv_lt (by omega) (h2 S hS (by omega))
    have grow : ∀ {P : Prop}, (P ↔ (sw mv n k r = false ∧ sw mv n (k + 1) r = true)) → ((a3 = 1 ∨ P) ↔ ∃ S, S < r + 1 ∧ sw mv n k S = false ∧ sw mv n (k + 1) S = true) := fun {P} hP => by
      rw [h4, hP]
      constructor
      · rintro (⟨S, g1, g2⟩ | g)
        · exact ⟨S, by omega, g2⟩
        · exact ⟨r, by omega, g⟩
      · rintro ⟨S, g1, g2⟩
        by_cases e : S = r
        · rw [e] at g2; exact Or.inr g2
        · exact Or.inl ⟨S, by omega, g2⟩
    by_cases q1 : hq_gi s 216 r = -1
    · have f0 := (sv_m1 (by omega) hr2).mp q1
      obtain ⟨v, v1, v2⟩ := sm_swept (N := N) (n := n) (mv := mv) (k := k) (S := r) (s := s) hN hnc hn (by omega) hm h217 lt0
      rcases v2 with ⟨rfl, v2⟩ | ⟨rfl, v2⟩
      · have f1 : sw mv n (k + 1) r = true := sw_s.mpr (Or.inr v2)
        have st : hq_st s 216 1024 (Int32.ofNat r) (-(Int32.ofNat (k + 1))) = some (hq_si s 216 r (-(Int32.ofNat (k + 1)))) := nn_st (by omega) (by omega)
        obtain ⟨a3', s', e1, e2, e3, e4, e5⟩ := ih (r + 1) m 1 (hq_si s 216 r (-(Int32.ofNat (k + 1)))) (by omega) (by omega) (fun S hS => by rw [nb_ii, if_neg (fun z => by omega)]; exact h217 S hS) (fun S hS hr' => by
          rw [nb_ii]
          by_cases z : S = r
          · rw [if_pos ⟨rfl, z⟩, z]; exact Or.inr ⟨f0, Or.inl ⟨rfl, f1⟩⟩
          · rw [if_neg (fun w => z w.2)]; exact h1 S hS (by omega)) (fun S hS hr' => by rw [nb_ii, if_neg (fun w => by omega)]; exact h2 S hS (by omega)) (Or.inr rfl) ⟨fun _ => ⟨r, by omega, f0, f1⟩, fun _ => rfl⟩
        refine ⟨a3', s', ?_, e2, fun c i h => (e3 c i h).trans (by rw [nb_ii, if_neg (fun z => h z.1)]), e4, e5⟩
        rw [← e1]
        simp only [f_X12_laysNights_L76_s, f_X12_laysNights_L76_B, if_neg c, ld, Option.bind_some, if_pos q1, v1, if_neg d10, st, nn_succ]
      · have f1 : sw mv n (k + 1) r = false := sw_nf fun z => by
          rcases sw_s.mp z with z | z
          · rw [f0] at z; cases z
          · exact v2 z
        obtain ⟨a3', s', e1, e2, e3, e4, e5⟩ := ih (r + 1) m a3 s (by omega) (by omega) h217 (fun S hS hr' => by
          by_cases z : S = r
          · rw [z]; exact Or.inr ⟨f0, Or.inr ⟨q1, f1⟩⟩
          · exact h1 S hS (by omega)) (fun S hS hr' => h2 S hS (by omega)) h3 (by
            have := grow (P := False) ⟨fun h => h.elim, fun h => by rw [f1] at h; cases h.2⟩
            rw [or_false] at this
            exact this)
        refine ⟨a3', s', ?_, e2, e3, e4, e5⟩
        rw [← e1]
        simp only [f_X12_laysNights_L76_s, f_X12_laysNights_L76_B, if_neg c, ld, Option.bind_some, if_pos q1, v1, if_true, nn_succ]
    · have f0 : ¬ sw mv n k r = false := fun z => q1 ((sv_m1 (by omega) hr2).mpr z)
      obtain ⟨a3', s', e1, e2, e3, e4, e5⟩ := ih (r + 1) m a3 s (by omega) (by omega) h217 (fun S hS hr' => by
        by_cases z : S = r
        · rw [z]
          rcases hr2 with g | ⟨g, -⟩
          · exact Or.inl g
          · exact absurd g q1
        · exact h1 S hS (by omega)) (fun S hS hr' => h2 S hS (by omega)) h3 (by
          have := grow (P := False) ⟨fun h => h.elim, fun h => absurd h.1 f0⟩
          rw [or_false] at this
          exact this)
      refine ⟨a3', s', ?_, e2, e3, e4, e5⟩
      rw [← e1]
      simp only [f_X12_laysNights_L76_s, f_X12_laysNights_L76_B, if_neg c, ld, Option.bind_some, if_neg q1, nn_succ]
theorem sw_00 (k : Nat) : sw mv n k 0 = true := sw_le (Nat.zero_le k) (by rw [sw]; rfl)
theorem sm_67 (hN : 1100 < N) (hnc : nc ≤ 10) (hn : n ≤ 10) (hm : ∀ S, S < 2 ^ nc → mv S < 2 ^ nc) : ∀ (q k m : Nat) (s : hq_S), k + q = 1025 → q + 1 < m → 1 ≤ k → (∀ S, S < 2 ^ nc → hq_gi s 217 S = Int32.ofNat (mv S)) → (∀ S, S < 2 ^ nc → sv mv n k S (hq_gi s 216 S)) → k ≤ cn (sw mv n k) (2 ^ nc) → ∃ K s', 1 ≤ K ∧ K < 1100 ∧ f_X12_laysNights_L67 N m (Int32.ofNat n) (Int32.ofNat (2 ^ nc - 1)) 1 (Int32.ofNat (k + 1)) s = some s' ∧ (∀ S, S < 2 ^ nc → sv mv n K S (hq_gi s' 216 S)) ∧ (∀ c i, ¬ c = 216 → hq_gi s' c i = hq_gi s c i) ∧ ∀ i S, S < 2 ^ nc → sw mv n i S = true → sw mv n K S = true := by
  have p10 : (2 : Nat) ^ nc ≤ 1024 := Nat.pow_le_pow_right (by omega) (show nc ≤ 10 by omega)
  have p0 : 0 < (2 : Nat) ^ nc := Nat.two_pow_pos nc
  have d10 : ¬ (1 : Int32) = 0 := by decide
  intro q
  induction q with
  | zero =>
    intro k m s hk hm' h1k h217 h216 hc
    have := cn_le (sw mv n k) (2 ^ nc)
    omega
  | succ q ih =>
    intro k m s hk hm' h1k h217 h216 hc
    obtain ⟨m, rfl⟩ : ∃ j, m = j + 1 := ⟨m - 1, by omega⟩
    obtain ⟨a3', s1, e1, e2, e3, e4, e5⟩ := sm_76 (N := N) (q67 := f_X12_laysNights_L67 N m) (n := n) (mv := mv) (k := k) hN hnc hn ⟨h1k, by omega⟩ hm (2 ^ nc - 1) 1 N 0 s (by omega) (by omega) h217 (fun S hS hr => by
      have e : S = 0 := by omega
      rw [e] at hS ⊢
      rcases h216 0 hS with h | ⟨-, h⟩
      · exact Or.inl h
      · rw [sw_00] at h; cases h) (fun S hS _ => h216 S hS) (Or.inl rfl) ⟨fun h => absurd h (by decide), fun ⟨S, h1, h2, _⟩ => by
        rw [show S = 0 by omega, sw_00] at h2; cases h2⟩
    have e1 : f_X12_laysNights_L76 N (f_X12_laysNights_L67 N m) N (Int32.ofNat n) (Int32.ofNat (2 ^ nc - 1)) 0 (Int32.ofNat (k + 1)) 1 s = _ := e1
    obtain ⟨s2, f1, f2, f3⟩ := sm_128 (N := N) (q67 := f_X12_laysNights_L67 N m) (n := n) (mv := mv) (k := k) (a3 := a3') hnc ⟨h1k, by omega⟩ (2 ^ nc - 1) 1 N s1 (by omega) (by omega) (fun S hS hr => by
      have e : S = 0 := by omega
      rw [e] at hS ⊢
      rcases e2 0 hS with ⟨j, h1, h2, h3⟩ | ⟨h, -⟩
      · exact Or.inl ⟨j, by omega, h2, h3⟩
      · rw [sw_00] at h; cases h) (fun S hS _ => e2 S hS)
    have f1 : f_X12_laysNights_L128 N (f_X12_laysNights_L67 N m) N (Int32.ofNat n) (Int32.ofNat (2 ^ nc - 1)) a3' (Int32.ofNat (k + 1)) 1 s1 = _ := f1
    have step : f_X12_laysNights_L67 N (m + 1) (Int32.ofNat n) (Int32.ofNat (2 ^ nc - 1)) 1 (Int32.ofNat (k + 1)) s = f_X12_laysNights_L67 N m (Int32.ofNat n) (Int32.ofNat (2 ^ nc - 1)) a3' (Int32.ofNat (k + 2)) s2 := by
      rw [← f1, ← e1, f_X12_laysNights_L67_s]
      simp only [f_X12_laysNights_L67_B, if_neg d10]
    rcases e4 with rfl | rfl
    · obtain ⟨m, rfl⟩ : ∃ j, m = j + 1 := ⟨m - 1, by omega⟩
      have nn : ∀ S, S < 2 ^ nc → sw mv n (k + 1) S = true → sw mv n k S = true := fun S hS h => by
        cases z : sw mv n k S with
        | true => rfl
        | false => exact absurd (e5.mpr ⟨S, hS, z, h⟩) (by decide)
      refine ⟨k + 1, s2, by omega, by omega, ?_, f2, fun c i h => (f3 c i h).trans (e3 c i h), fun i S hS h => sw_up (sw_fix hm nn i S hS h)⟩
      rw [step, f_X12_laysNights_L67_s]
      simp only [f_X12_laysNights_L67_B, if_true]
    · have lt : cn (sw mv n k) (2 ^ nc) < cn (sw mv n (k + 1)) (2 ^ nc) := cn_lt _ (fun i _ h => sw_up h) (e5.mp rfl)
      obtain ⟨K, s', g0, g0', g1, g2, g3, g4⟩ := ih (k + 1) m s2 (by omega) (by omega) (by omega) (fun S hS => by rw [f3 _ _ (by omega), e3 _ _ (by omega)]; exact h217 S hS) f2 (by omega)
      exact ⟨K, s', g0, g0', step.trans g1, g2, fun c i h => (g3 c i h).trans ((f3 c i h).trans (e3 c i h)), g4⟩
theorem sm_13 {nx : Nat → Nat} (hN : 1100 < N) (hnc : nc ≤ 10) (hn : n ≤ 10) (hx : ∀ c, nx c < 2 ^ nc) : ∀ (q r m : Nat) (s : hq_S), r + q = 2 ^ nc → q < m → hl_R nc nx s → (∀ S, S < r → hq_gi s 217 S = Int32.ofNat (mvs nx S nc) ∧ sv (fun S => mvs nx S nc) n 1 S (hq_gi s 216 S)) → ∃ s', f_X12_laysNights_L13 N m (Int32.ofNat n) (Int32.ofNat (2 ^ nc - 1)) (Int32.ofNat r) s = f_X12_laysNights_L67 N N (Int32.ofNat n) (Int32.ofNat (2 ^ nc - 1)) 1 2 s' ∧ (∀ S, S < 2 ^ nc → hq_gi s' 217 S = Int32.ofNat (mvs nx S nc) ∧ sv (fun S => mvs nx S nc) n 1 S (hq_gi s' 216 S)) ∧ ∀ c i, ¬ c = 216 → ¬ c = 217 → hq_gi s' c i = hq_gi s c i := by
  have p10 : (2 : Nat) ^ nc ≤ 1024 := Nat.pow_le_pow_right (by omega) (show nc ≤ 10 by omega)
  have p0 : 0 < (2 : Nat) ^ nc := Nat.two_pow_pos nc
  intro q
  induction q with
  | zero =>
    intro r m s hr hm L h
    obtain ⟨m, rfl⟩ : ∃ j, m = j + 1 := ⟨m - 1, by omega⟩
    have c : Int32.ofNat (2 ^ nc - 1) < Int32.ofNat r := (nn_lt (by omega) (by omega)).mpr (by omega)
    exact ⟨s, by simp only [f_X12_laysNights_L13_s, f_X12_laysNights_L13_B, if_pos c], fun S hS => h S (by omega), fun _ _ _ _ => rfl⟩
  | succ q ih =>
    intro r m s hr hm L h
    obtain ⟨m, rfl⟩ : ∃ j, m = j + 1 := ⟨m - 1, by omega⟩
    have c : ¬ Int32.ofNat (2 ^ nc - 1) < Int32.ofNat r := by rw [nn_lt (by omega) (by omega)]; omega
    have mo := sm_moved (N := N) (S := r) (s := s) (by omega) hnc hx (by omega) L
    have st : hq_st s 217 1024 (Int32.ofNat r) (Int32.ofNat (mvs nx r nc)) = some (hq_si s 217 r (Int32.ofNat (mvs nx r nc))) := nn_st (by omega) (by omega)
    have st2 : ∀ x, hq_st (hq_si s 217 r (Int32.ofNat (mvs nx r nc))) 216 1024 (Int32.ofNat r) x = some (hq_si (hq_si s 217 r (Int32.ofNat (mvs nx r nc))) 216 r x) := fun x => nn_st (by omega) (by omega)
    have go : ∀ x, sv (fun S => mvs nx S nc) n 1 r x → ∃ s', f_X12_laysNights_L13 N m (Int32.ofNat n) (Int32.ofNat (2 ^ nc - 1)) (Int32.ofNat (r + 1)) (hq_si (hq_si s 217 r (Int32.ofNat (mvs nx r nc))) 216 r x) = f_X12_laysNights_L67 N N (Int32.ofNat n) (Int32.ofNat (2 ^ nc - 1)) 1 2 s' ∧ (∀ S, S < 2 ^ nc → hq_gi s' 217 S = Int32.ofNat (mvs nx S nc) ∧ sv (fun S => mvs nx S nc) n 1 S (hq_gi s' 216 S)) ∧ ∀ c i, ¬ c = 216 → ¬ c = 217 → hq_gi s' c i = hq_gi s c i := fun x hx' => by
      obtain ⟨s', e1, e2, e3⟩ := ih (r + 1) m (hq_si (hq_si s 217 r (Int32.ofNat (mvs nx r nc))) 216 r x) (by omega) (by omega) ⟨by rw [nb_ii, if_neg (fun z => by omega), nb_ii, if_neg (fun z => by omega)]; exact L.1, fun d hd => by rw [nb_ii, if_neg (fun z => by omega), nb_ii, if_neg (fun z => by omega)]; exact L.2 d hd⟩ (fun S hS => by
        by_cases z : S = r
        · rw [nb_ii, if_neg (fun z => by omega), nb_ii, if_pos ⟨rfl, z⟩, nb_ii, if_pos ⟨rfl, z⟩, z]
          exact ⟨rfl, hx'⟩
        · rw [nb_ii, if_neg (fun z => by omega), nb_ii, if_neg (fun w => z w.2), nb_ii, if_neg (fun w => z w.2), nb_ii, if_neg (fun w => by omega)]
          exact h S (by omega))
      exact ⟨s', e1, e2, fun c i h1 h2 => (e3 c i h1 h2).trans (by rw [nb_ii, if_neg (fun z => h1 z.1), nb_ii, if_neg (fun z => h2 z.1)])⟩
    by_cases q0 : r = 0
    · have z0 : Int32.ofNat r = 0 := by rw [q0]; rfl
      obtain ⟨s', e1, e2⟩ := go 0 (Or.inl ⟨0, by omega, ⟨by rw [sw]; exact decide_eq_true q0, fun i hi => by omega⟩, rfl⟩)
      refine ⟨s', ?_, e2⟩
      rw [← e1]
      simp only [f_X12_laysNights_L13_s, f_X12_laysNights_L13_B, if_neg c, mo, st, Option.bind_some, if_pos z0, st2, nn_succ]
    · have z0 : ¬ Int32.ofNat r = 0 := by rw [nb_eq0 (by omega)]; exact q0
      have bi := hb_bits (N := N) (a := r) (s := hq_si s 217 r (Int32.ofNat (mvs nx r nc))) (by omega) (by omega)
      have pl := nb_pop_le r 20
      have lt : (Int32.ofNat n < Int32.ofNat (nb_pop r 20)) = (n < nb_pop r 20) := nb_ltp (by omega) (by omega)
      have s0 : sw (fun S => mvs nx S nc) n 0 r = false := by rw [sw]; exact decide_eq_false q0
      have d0 : nb_df r 0 = r := nb_ext fun i => by rw [nb_df_t, Nat.zero_testBit, Bool.not_false, Bool.and_true]
      by_cases q2 : n < nb_pop r 20
      · have s1 : sw (fun S => mvs nx S nc) n 1 r = false := sw_nf fun z => by
          rcases sw_s.mp z with z | ⟨R, z1, z2, z3⟩
          · rw [s0] at z; cases z
          · rw [sw] at z3
            have z3 := (mvs_00 (show R < 2 ^ nc by have := nb_su_le z1; omega)).mp (of_decide_eq_true z3)
            rw [z3, d0] at z2
            omega
        obtain ⟨s', e1, e2⟩ := go (-1) (Or.inr ⟨rfl, s1⟩)
        refine ⟨s', ?_, e2⟩
        rw [← e1]
        simp only [f_X12_laysNights_L13_s, f_X12_laysNights_L13_B, if_neg c, mo, st, Option.bind_some, if_neg z0, bi, lt, if_pos q2, st2, nn_succ]
      · have s1 : sw (fun S => mvs nx S nc) n 1 r = true := sw_s.mpr (Or.inr ⟨0, fun i hi => (by rw [Nat.zero_testBit] at hi; cases hi), by rw [d0]; omega, by
          rw [sw]
          exact decide_eq_true ((mvs_00 p0).mpr rfl)⟩)
        obtain ⟨s', e1, e2⟩ := go 1 (Or.inl ⟨1, Nat.le_refl _, ⟨s1, fun i hi => by rw [show i = 0 by omega]; exact s0⟩, rfl⟩)
        refine ⟨s', ?_, e2⟩
        rw [← e1]
        simp only [f_X12_laysNights_L13_s, f_X12_laysNights_L13_B, if_neg c, mo, st, Option.bind_some, if_neg z0, bi, lt, if_neg q2, st2, nn_succ]
end
