/-! THE CLASS SWEEPS -/
section
variable {N nc : Nat} {nx : Nat → Nat} {s : hq_S}
theorem sw_al : (hq_alI 160 = some 1024 ∧ hq_alI 161 = some 1024 ∧ hq_alI 162 = some 1024) ∧ hq_alA 160 = some (Int32.ofNat 1024) ∧ hq_alA 161 = some (Int32.ofNat 1024) ∧ hq_alA 162 = some (Int32.ofNat 1024) := by decide +kernel
theorem sw_stA {s : hq_S} {j : Nat} {x : Int32} (h : j < 1024) : hq_stiA s 160 (Int32.ofNat j) x = some (hq_si s 160 j x) := by
  unfold hq_stiA
  rw [sw_al.1.1]
  exact nn_st h (by omega)
theorem sw_ldA {s : hq_S} {j : Nat} (h : j < 1024) : hq_ldiA s 160 (Int32.ofNat j) = some (hq_gi s 160 j) := nn_ldiA (L := 1024) sw_al.1.1 h (by omega)
/-- one more corner -/
theorem lg_39 {q6 : Nat → Nat → Int32 → hq_S → Option hq_S} {c : Nat} (hc : c < 10) : ∀ (q j m : Nat) (s : hq_S), j + q = 2 ^ c → q < m → (∀ S, S < 2 ^ c → hq_gi s 160 S = Int32.ofNat (mvs nx S c)) → (∀ S, S < j → hq_gi s 160 (2 ^ c + S) = Int32.ofNat (mvs nx S c ||| mv_n nx c)) → ∃ s', f_X7_letGo_L39 N q6 m 103 160 (Int32.ofNat c) (Int32.ofNat (mv_n nx c)) (Int32.ofNat j) s = q6 103 160 (Int32.ofNat (c + 1)) s' ∧ (∀ S, S < 2 ^ (c + 1) → hq_gi s' 160 S = Int32.ofNat (mvs nx S (c + 1))) ∧ ∀ k i, ¬ k = 160 → hq_gi s' k i = hq_gi s k i := by
  have pc : (2 : Nat) ^ (c + 1) = 2 ^ c + 2 ^ c := by rw [Nat.pow_succ]; omega
  have p10 : (2 : Nat) ^ c ≤ 512 := Nat.pow_le_pow_right (by omega) (show c ≤ 9 by omega)
  have on1 := nb_one (show c < 32 by omega)
  intro q
  induction q with
  | zero =>
    intro j m s hj hm h1 h2
    obtain ⟨m, rfl⟩ : ∃ k, m = k + 1 := ⟨m - 1, by omega⟩
    have cc : ¬ Int32.ofNat j < Int32.ofNat (2 ^ c) := by rw [nn_lt (by omega) (by omega)]; omega
    refine ⟨s, by simp only [f_X7_letGo_L39_s, f_X7_letGo_L39_B, on1, if_neg cc, nn_succ], fun S hS => ?_, fun _ _ _ => rfl⟩
    rw [mvs]
    by_cases q : S < 2 ^ c
    · rw [Nat.testBit_lt_two_pow q, if_neg (by decide)]
      exact h1 S q
    · have e : S = 2 ^ c + (S - 2 ^ c) := by omega
      have hS2 : S - 2 ^ c < 2 ^ c := by omega
      have t1 : S.testBit c = true := by
        rw [e, Nat.testBit_two_pow_add_eq, Nat.testBit_lt_two_pow hS2]; rfl
      have t2 : mvs nx S c = mvs nx (S - 2 ^ c) c := mvs_cg c fun i hi => by
        conv => lhs; rw [e]
        rw [Nat.testBit_two_pow_add_gt hi]
      rw [if_pos t1, t2]
      conv => lhs; rw [e]
      exact h2 _ (by omega)
  | succ q ih =>
    intro j m s hj hm h1 h2
    obtain ⟨m, rfl⟩ : ∃ k, m = k + 1 := ⟨m - 1, by omega⟩
    have cc : Int32.ofNat j < Int32.ofNat (2 ^ c) := (nn_lt (by omega) (by omega)).mpr (by omega)
    have eo : j ||| 2 ^ c = 2 ^ c + j := by
      have h := Nat.two_pow_add_eq_or_of_lt (b := j) (i := c) (by omega) 1
      rw [Nat.mul_one] at h
      rw [Nat.or_comm, h]
    have ld : hq_ldiA s 160 (Int32.ofNat j) = some (Int32.ofNat (mvs nx j c)) := by rw [sw_ldA (by omega), h1 j (by omega)]
    have st : hq_stiA s 160 (Int32.ofNat (2 ^ c + j)) (Int32.ofNat (mvs nx j c ||| mv_n nx c)) = some (hq_si s 160 (2 ^ c + j) (Int32.ofNat (mvs nx j c ||| mv_n nx c))) := sw_stA (by omega)
    obtain ⟨s', e1, e2, e3⟩ := ih (j + 1) m (hq_si s 160 (2 ^ c + j) (Int32.ofNat (mvs nx j c ||| mv_n nx c))) (by omega) (by omega) (fun S hS => by rw [nb_ii, if_neg (fun z => by omega)]; exact h1 S hS) (fun S hS => by
      rw [nb_ii]
      by_cases z : S = j
      · rw [if_pos ⟨rfl, by omega⟩, z]
      · rw [if_neg (fun w => z (by omega))]; exact h2 S (by omega))
    refine ⟨s', ?_, e2, fun k i h => (e3 k i h).trans (by rw [nb_ii, if_neg (fun z => h z.1)])⟩
    rw [← e1]
    simp only [f_X7_letGo_L39_s, f_X7_letGo_L39_B, on1, if_pos cc, ld, Option.bind_some, nb_or, eo, st, nn_succ]
theorem lg_6 (hN : 1100 < N) (hnc : nc ≤ 10) (hx : ∀ c, nx c < 2 ^ nc) : ∀ (q c m : Nat) (s : hq_S), c + q = nc → q < m → hl_S 103 nc nx s → (∀ S, S < 2 ^ c → hq_gi s 160 S = Int32.ofNat (mvs nx S c)) → ∃ s', f_X7_letGo_L6 N m 103 160 (Int32.ofNat c) s = some s' ∧ (∀ S, S < 2 ^ nc → hq_gi s' 160 S = Int32.ofNat (mvs nx S nc)) ∧ ∀ k i, ¬ k = 160 → hq_gi s' k i = hq_gi s k i := by
  intro q
  induction q with
  | zero =>
    intro c m s hc hm L h
    obtain ⟨m, rfl⟩ : ∃ k, m = k + 1 := ⟨m - 1, by omega⟩
    have hc : c = nc := by omega
    subst hc
    have cc : ¬ Int32.ofNat c < Int32.ofNat c := by rw [nn_lt (by omega) (by omega)]; omega
    exact ⟨s, by simp only [f_X7_letGo_L6_s, f_X7_letGo_L6_B, L.1, if_neg cc], h, fun _ _ _ => rfl⟩
  | succ q ih =>
    intro c m s hc hm L h
    obtain ⟨m, rfl⟩ : ∃ k, m = k + 1 := ⟨m - 1, by omega⟩
    have cc : Int32.ofNat c < Int32.ofNat nc := (nn_lt (by omega) (by omega)).mpr (by omega)
    have p10 : (2 : Nat) ^ c ≤ 512 := Nat.pow_le_pow_right (by omega) (show c ≤ 9 by omega)
    have ld : hq_ld s (103 + 1) 10 (Int32.ofNat c) = some (hq_gi s (103 + 1) c) := nn_ld (by omega) (by omega)
    have L2 := L.2 c (by omega)
    obtain ⟨s1, e1, e2, e3⟩ := lg_39 (N := N) (q6 := f_X7_letGo_L6 N m) (nx := nx) (c := c) (by omega) (2 ^ c) 0 N s (by omega) (by omega) h (fun S hS => by omega)
    have e1 : f_X7_letGo_L39 N (f_X7_letGo_L6 N m) N 103 160 (Int32.ofNat c) (Int32.ofNat (mv_n nx c)) 0 s = _ := e1
    obtain ⟨s', g1, g2, g3⟩ := ih (c + 1) m s1 (by omega) (by omega) ⟨by rw [e3 _ _ (by omega)]; exact L.1, fun d hd => by rw [e3 _ _ (by omega)]; exact L.2 d hd⟩ e2
    refine ⟨s', ?_, g2, fun k i hk => (g3 k i hk).trans (e3 k i hk)⟩
    rw [← g1, ← e1]
    have n0 : (Int32.ofNat (nx c) = 0) = (nx c = 0) := nb_eq0 (by have := nb_1024 hnc (hx c); omega)
    by_cases z : nx c = 0
    · have mz : mv_n nx c = 2 ^ c := if_pos z
      simp only [f_X7_letGo_L6_s, f_X7_letGo_L6_B, L.1, if_pos cc, ld, Option.bind_some, L2, n0, if_pos z, nb_one (show c < 32 by omega), mz]
    · have mz : mv_n nx c = nx c := if_neg z
      simp only [f_X7_letGo_L6_s, f_X7_letGo_L6_B, L.1, if_pos cc, ld, Option.bind_some, L2, n0, if_neg z, mz]
theorem lg_all (hN : 1100 < N) (hnc : nc ≤ 10) (hx : ∀ c, nx c < 2 ^ nc) (L : hl_S 103 nc nx s) : ∃ s', f_X7_letGo N 103 160 s = some s' ∧ (∀ S, S < 2 ^ nc → hq_gi s' 160 S = Int32.ofNat (mvs nx S nc)) ∧ ∀ k i, ¬ k = 160 → hq_gi s' k i = hq_gi s k i := by
  have st : hq_stiA s 160 (0 : Int32) 0 = some (hq_si s 160 0 0) := sw_stA (j := 0) (by omega)
  obtain ⟨s', e1, e2, e3⟩ := lg_6 (N := N) hN hnc hx nc 0 N (hq_si s 160 0 0) (by omega) (by omega) ⟨by rw [nb_ii, if_neg (fun z => by omega)]; exact L.1, fun d hd => by rw [nb_ii, if_neg (fun z => by omega)]; exact L.2 d hd⟩ (fun S hS => by
    rw [nb_ii, if_pos ⟨rfl, by omega⟩]; rfl)
  refine ⟨s', ?_, e2, fun k i hk => (e3 k i hk).trans (by rw [nb_ii, if_neg (fun z => hk z.1)])⟩
  rw [← e1]
  simp only [f_X7_letGo, st, Option.bind_some]
  rfl
/-! all sets around a rest -/
theorem sa_ok : mm_rfit (mm_ret mc_X7_solveAround) 0 = true ∧ mm_rfit (mm_ret mc_X7_solveAround) 1 = true := by decide
theorem sa_14 {n r nt : Nat} (hnc : nc ≤ 10) (hn : n ≤ 10) (hr : r < 2 ^ nc) : ∀ (l m : Nat) (a5 : Int32) (s : hq_S), l + 1 < m → nb_su l (nb_df (2 ^ nc - 1) r) → (a5 = 0 ∨ a5 = 1) → ∃ v s', f_X7_solveAround_L14 N m (Int32.ofNat r) (Int32.ofNat (2 ^ nc - 1)) (Int32.ofNat n) (Int32.ofNat nt) a5 (Int32.ofNat (nb_df (2 ^ nc - 1) r)) (Int32.ofNat l) s = some (v, s') ∧ (v = 0 ∨ v = 1) ∧ (v = 1 ↔ (a5 = 1 ∨ ∃ S, S < 2 ^ nc ∧ nb_su r S ∧ nb_df S r ≤ l ∧ hq_gi s 161 S = -1 ∧ nb_pop (nb_df S r) 20 ≤ n)) ∧ (∀ S, S < 2 ^ nc → nb_su r S → nb_df S r ≤ l → hq_gi s 161 S = -1 → nb_pop (nb_df S r) 20 ≤ n → hq_gi s' 161 S = Int32.ofNat nt) ∧ (∀ S, ¬ (S < 2 ^ nc ∧ nb_su r S ∧ nb_df S r ≤ l ∧ hq_gi s 161 S = -1 ∧ nb_pop (nb_df S r) 20 ≤ n) → hq_gi s' 161 S = hq_gi s 161 S) ∧ ∀ k i, ¬ k = 161 → hq_gi s' k i = hq_gi s k i := by
  have p10 : (2 : Nat) ^ nc ≤ 1024 := Nat.pow_le_pow_right (by omega) (show nc ≤ 10 by omega)
  have all : ∀ i, (2 ^ nc - 1).testBit i = decide (i < nc) := fun i => Nat.testBit_two_pow_sub_one nc i
  have ob : ∀ i, (nb_df (2 ^ nc - 1) r).testBit i = (decide (i < nc) && !r.testBit i) := fun i => by rw [nb_df_t, all]
  have olt : nb_df (2 ^ nc - 1) r < 1024 := by
    have := nb_df_lt (a := 2 ^ nc - 1) (b := r) (k := nc) (by have := Nat.two_pow_pos nc; omega)
    omega
  have su : ∀ S, S < 2 ^ nc → nb_su (nb_df S r) (nb_df (2 ^ nc - 1) r) := fun S hS i hi => by
    rw [nb_df_t, Bool.and_eq_true] at hi
    rw [ob, hi.2, decide_eq_true (nb_tlt hS hi.1)]; rfl
  have un : ∀ S, nb_su r S → r ||| nb_df S r = S := fun S h => nb_ext fun i => by
    rw [Nat.testBit_or, nb_df_t]
    cases z : r.testBit i with
    | false => rw [Bool.not_false, Bool.and_true]; rfl
    | true => rw [h i z]; rfl
  have back : ∀ l, nb_su l (nb_df (2 ^ nc - 1) r) → r ||| l < 2 ^ nc ∧ nb_su r (r ||| l) ∧ nb_df (r ||| l) r = l := fun l hl => by
    refine ⟨nb_lt_or hr ?_, fun i hi => by rw [Nat.testBit_or, hi]; rfl, nb_ext fun i => ?_⟩
    · apply Nat.lt_pow_two_of_testBit
      intro i hi
      cases z : l.testBit i with
      | false => rfl
      | true =>
        have := hl i z
        rw [ob, decide_eq_false (by omega)] at this
        cases this
    · rw [nb_df_t, Nat.testBit_or]
      cases z : l.testBit i with
      | false => cases r.testBit i <;> rfl
      | true =>
        have := hl i z
        rw [ob, Bool.and_eq_true] at this
        cases w : r.testBit i with
        | false => rfl
        | true => rw [w] at this; cases this.2
  intro l
  induction l using Nat.strongRecOn with
  | ind l ih =>
    intro m a5 s hm hl h5
    obtain ⟨m, rfl⟩ : ∃ k, m = k + 1 := ⟨m - 1, by omega⟩
    obtain ⟨k1, k2, k3⟩ := back l hl
    have ll := nb_su_le hl
    have c0 : ¬ Int32.ofNat l < 0 := nn_nlt0 (by omega)
    have ld : hq_ld s 161 1024 (Int32.ofNat (r ||| l)) = some (hq_gi s 161 (r ||| l)) := nn_ld (by omega) (by omega)
    have bc := hb_bc (N := N) (a := l) (s := s) (by omega)
    have pl := nb_pop_le l 20
    have lt : (Int32.ofNat n < Int32.ofNat (nb_pop l 20)) = (n < nb_pop l 20) := nb_ltp (by omega) (by omega)
    have st : hq_st s 161 1024 (Int32.ofNat (r ||| l)) (Int32.ofNat nt) = some (hq_si s 161 (r ||| l) (Int32.ofNat nt)) := nn_st (by omega) (by omega)
    have m10 : (-1 : Int32) < 0 := by decide
    -- what one set does
    obtain ⟨v1, s1, st1, w1, w2, w3, w4, w5⟩ : ∃ v1 s1, (∀ q : Int32 → hq_S → Option (Int32 × hq_S), ((if hq_gi s 161 (r ||| l) = (-1 : Int32) then (f_J6_bitCount_0f7a4 N (Int32.ofNat l) s).bind fun y5 => if Int32.ofNat n < y5.1 then some (a5, y5.2) else (hq_st y5.2 161 1024 (Int32.ofNat (r ||| l)) (Int32.ofNat nt)).bind fun s7 => some ((1 : Int32), s7) else some (a5, s)).bind fun z3 => q z3.1 z3.2) = q v1 s1) ∧ (v1 = 0 ∨ v1 = 1) ∧ (v1 = 1 ↔ (a5 = 1 ∨ (hq_gi s 161 (r ||| l) = -1 ∧ nb_pop l 20 ≤ n))) ∧ (hq_gi s 161 (r ||| l) = -1 → nb_pop l 20 ≤ n → hq_gi s1 161 (r ||| l) = Int32.ofNat nt) ∧ (¬ (hq_gi s 161 (r ||| l) = -1 ∧ nb_pop l 20 ≤ n) → hq_gi s1 161 (r ||| l) = hq_gi s 161 (r ||| l)) ∧ ∀ k i, ¬ (k = 161 ∧ i = r ||| l) → hq_gi s1 k i = hq_gi s k i := by
      by_cases q1 : hq_gi s 161 (r ||| l) = -1
      · by_cases q2 : n < nb_pop l 20
        · exact ⟨a5, s, fun q => by simp only [if_pos q1, bc, Option.bind_some, lt, if_pos q2], h5, ⟨fun h => Or.inl h, fun h => h.elim id fun z => by omega⟩, fun _ h => by omega, fun _ => rfl, fun _ _ _ => rfl⟩
        · exact ⟨1, hq_si s 161 (r ||| l) (Int32.ofNat nt), fun q => by simp only [if_pos q1, bc, Option.bind_some, lt, if_neg q2, st], Or.inr rfl, ⟨fun _ => Or.inr ⟨q1, by omega⟩, fun _ => rfl⟩, fun _ _ => by rw [nb_ii, if_pos ⟨rfl, rfl⟩], fun h => absurd ⟨q1, by omega⟩ h, fun k i h => by rw [nb_ii, if_neg h]⟩
      · exact ⟨a5, s, fun q => by simp only [if_neg q1, Option.bind_some], h5, ⟨fun h => Or.inl h, fun h => h.elim id fun z => absurd z.1 q1⟩, fun h => absurd h q1, fun _ => rfl, fun _ _ _ => rfl⟩
    by_cases e0 : l = 0
    · obtain ⟨m, rfl⟩ : ∃ k, m = k + 1 := ⟨m - 1, by omega⟩
      have z0 : Int32.ofNat l = 0 := by rw [e0]; rfl
      have fit : mm_rfit (mm_ret mc_X7_solveAround) v1 = true := w1.elim (fun h => by rw [h]; exact sa_ok.1) (fun h => by rw [h]; exact sa_ok.2)
      have only : ∀ S, nb_su r S → nb_df S r ≤ l → S = r ||| l := fun S h1 h2 => by
        rw [← un S h1]
        congr 1
        omega
      refine ⟨v1, s1, ?_, w1, ?_, fun S h1 h2 h3 h4 h5 => ?_, fun S h => ?_, fun k i h => w5 k i (fun z => h z.1)⟩
      · rw [f_X7_solveAround_L14_s]
        simp only [f_X7_solveAround_L14_B, if_neg c0, nb_or, ld, Option.bind_some]
        rw [st1 (fun v s => (if Int32.ofNat l = 0 then some (-1 : Int32) else some ((Int32.ofNat l - 1) &&& Int32.ofNat (nb_df (2 ^ nc - 1) r))).bind fun z8 => f_X7_solveAround_L14 N (m + 1) (Int32.ofNat r) (Int32.ofNat (2 ^ nc - 1)) (Int32.ofNat n) (Int32.ofNat nt) v (Int32.ofNat (nb_df (2 ^ nc - 1) r)) z8 s)]
        simp only [if_pos z0, Option.bind_some, f_X7_solveAround_L14_s, f_X7_solveAround_L14_B, if_pos m10, if_pos fit]
      · rw [w2]
        constructor
        · rintro (h | ⟨h1, h2⟩)
          · exact Or.inl h
          · exact Or.inr ⟨r ||| l, k1, k2, by rw [k3]; omega, h1, by rw [k3]; exact h2⟩
        · rintro (h | ⟨S, h1, h2, h3, h4, h5⟩)
          · exact Or.inl h
          · have e := only S h2 h3
            rw [e] at h4 h5
            rw [k3] at h5
            exact Or.inr ⟨h4, h5⟩
      · have e := only S h2 h3
        rw [e] at h4 h5 ⊢
        rw [k3] at h5
        exact w3 h4 h5
      · by_cases e : S = r ||| l
        · rw [e] at h ⊢
          refine w4 fun z => h ⟨k1, k2, by rw [k3]; omega, z.1, by rw [k3]; exact z.2⟩
        · exact w5 161 S (fun z => e z.2)
    · have z0 : ¬ Int32.ofNat l = 0 := by rw [nb_eq0 (by omega)]; exact e0
      have nx' : (Int32.ofNat l - 1) &&& Int32.ofNat (nb_df (2 ^ nc - 1) r) = Int32.ofNat ((l - 1) &&& nb_df (2 ^ nc - 1) r) := by
        rw [nb_lit 1, nb_sub (by omega), nb_and]
      have l1 : (l - 1) &&& nb_df (2 ^ nc - 1) r ≤ l - 1 := Nat.and_le_left
      have hl' : nb_su ((l - 1) &&& nb_df (2 ^ nc - 1) r) (nb_df (2 ^ nc - 1) r) := fun i hi => by
        rw [Nat.testBit_and, Bool.and_eq_true] at hi
        exact hi.2
      have nxt := fun L (h1 : nb_su L (nb_df (2 ^ nc - 1) r)) (h2 : L < l) => nb_next l L (nb_df (2 ^ nc - 1) r) h1 hl h2
      generalize hl2 : (l - 1) &&& nb_df (2 ^ nc - 1) r = l2 at nx' l1 hl' nxt
      obtain ⟨v, s', f1, f2, f3, f4, f5, f6⟩ := ih l2 (by omega) m v1 s1 (by omega) hl' w1
      have ne : ∀ S, nb_df S r ≤ l2 → ¬ S = r ||| l := fun S h e => by rw [e, k3] at h; omega
      have same : ∀ S, nb_df S r ≤ l2 → hq_gi s1 161 S = hq_gi s 161 S := fun S h => w5 161 S (fun z => ne S h z.2)
      have spl : ∀ S, S < 2 ^ nc → nb_su r S → nb_df S r ≤ l → S = r ||| l ∨ nb_df S r ≤ l2 := fun S h1 h2 h3 => by
        by_cases e : nb_df S r = l
        · left
          rw [← un S h2, e]
        · exact Or.inr (nxt _ (su S h1) (by omega))
      refine ⟨v, s', ?_, f2, ?_, fun S h1 h2 h3 h4 h5 => ?_, fun S h => ?_, fun k i h => (f6 k i h).trans (w5 k i (fun z => h z.1))⟩
      · rw [← f1]
        simp only [f_X7_solveAround_L14_s, f_X7_solveAround_L14_B, if_neg c0, nb_or, ld, Option.bind_some]
        rw [st1 (fun v s => (if Int32.ofNat l = 0 then some (-1 : Int32) else some ((Int32.ofNat l - 1) &&& Int32.ofNat (nb_df (2 ^ nc - 1) r))).bind fun z8 => f_X7_solveAround_L14 N m (Int32.ofNat r) (Int32.ofNat (2 ^ nc - 1)) (Int32.ofNat n) (Int32.ofNat nt) v (Int32.ofNat (nb_df (2 ^ nc - 1) r)) z8 s)]
        simp only [if_neg z0, Option.bind_some, nx']
      · rw [f3, w2]
        constructor
        · rintro ((h | ⟨h1, h2⟩) | ⟨S, h1, h2, h3, h4, h5⟩)
          · exact Or.inl h
          · exact Or.inr ⟨r ||| l, k1, k2, by rw [k3]; omega, h1, by rw [k3]; exact h2⟩
          · rw [same S h3] at h4
            exact Or.inr ⟨S, h1, h2, by omega, h4, h5⟩
        · rintro (h | ⟨S, h1, h2, h3, h4, h5⟩)
          · exact Or.inl (Or.inl h)
          · rcases spl S h1 h2 h3 with e | e
            · rw [e] at h4 h5
              rw [k3] at h5
              exact Or.inl (Or.inr ⟨h4, h5⟩)
            · exact Or.inr ⟨S, h1, h2, e, by rw [same S e]; exact h4, h5⟩
      · rcases spl S h1 h2 h3 with e | e
        · rw [e] at h4 h5 ⊢
          rw [k3] at h5
          rw [f5 _ (fun z => by have := z.2.2.1; rw [k3] at this; omega)]
          exact w3 h4 h5
        · exact f4 S h1 h2 e (by rw [same S e]; exact h4) h5
      · by_cases e : S = r ||| l
        · rw [e] at h ⊢
          rw [f5 _ (fun z => by have := z.2.2.1; rw [k3] at this; omega)]
          exact w4 fun z => h ⟨k1, k2, by rw [k3]; omega, z.1, by rw [k3]; exact z.2⟩
        · have e1 := w5 161 S (fun z => e z.2)
          rw [f5 S (fun z => h ⟨z.1, z.2.1, by have := z.2.2.1; omega, by rw [← e1]; exact z.2.2.2.1, z.2.2.2.2⟩)]
          exact e1
theorem sa_all {n r nt : Nat} (hN : 1100 < N) (hnc : nc ≤ 10) (hn : n ≤ 10) (hr : r < 2 ^ nc) : ∃ v s', f_X7_solveAround N (Int32.ofNat r) (Int32.ofNat (2 ^ nc - 1)) (Int32.ofNat n) (Int32.ofNat nt) s = some (v, s') ∧ (v = 0 ∨ v = 1) ∧ (v = 1 ↔ ∃ S, S < 2 ^ nc ∧ nb_su r S ∧ hq_gi s 161 S = -1 ∧ nb_pop (nb_df S r) 20 ≤ n) ∧ (∀ S, S < 2 ^ nc → nb_su r S → hq_gi s 161 S = -1 → nb_pop (nb_df S r) 20 ≤ n → hq_gi s' 161 S = Int32.ofNat nt) ∧ (∀ S, ¬ (S < 2 ^ nc ∧ nb_su r S ∧ hq_gi s 161 S = -1 ∧ nb_pop (nb_df S r) 20 ≤ n) → hq_gi s' 161 S = hq_gi s 161 S) ∧ ∀ k i, ¬ k = 161 → hq_gi s' k i = hq_gi s k i := by
  have p10 : (2 : Nat) ^ nc ≤ 1024 := Nat.pow_le_pow_right (by omega) (show nc ≤ 10 by omega)
  have olt := nb_df_lt (a := 2 ^ nc - 1) (b := r) (k := nc) (by have := Nat.two_pow_pos nc; omega)
  have top : ∀ S, S < 2 ^ nc → nb_df S r ≤ nb_df (2 ^ nc - 1) r := fun S hS => nb_su_le fun i hi => by
    rw [nb_df_t, Bool.and_eq_true] at hi
    rw [nb_df_t, Nat.testBit_two_pow_sub_one, hi.2, decide_eq_true (nb_tlt hS hi.1)]; rfl
  obtain ⟨v, s', f1, f2, f3, f4, f5, f6⟩ := sa_14 (N := N) (n := n) (r := r) (nt := nt) hnc hn hr (nb_df (2 ^ nc - 1) r) N 0 s (by omega) (fun i hi => hi) (Or.inl rfl)
  refine ⟨v, s', ?_, f2, ?_, fun S h1 h2 h3 h4 => f4 S h1 h2 (top S h1) h3 h4, fun S h => f5 S (fun z => h ⟨z.1, z.2.1, z.2.2.2⟩), f6⟩
  · unfold f_X7_solveAround
    rw [nb_not]
    exact f1
  · rw [f3]
    constructor
    · rintro (h | ⟨S, h1, h2, -, h4⟩)
      · exact absurd h (by decide)
      · exact ⟨S, h1, h2, h4⟩
    · rintro ⟨S, h1, h2, h4⟩
      exact Or.inr ⟨S, h1, h2, top S h1, h4⟩
end
