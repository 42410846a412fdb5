/-! WHAT CAN BE UNDONE: both note alike -/
/-- a place of a town by its row and its number there -/
def hu_g (s : hq_S) (a c i : Nat) : Int32 := if c ≤ 198 then hq_gi s c a else if c = 199 then hq_gi s 199 (10 * a + i) else if c ≤ 202 then hq_gi s c (3 * a + i) else hq_gi s c (4 * a + i)
def hu_v (c i : Nat) : Prop := (196 ≤ c ∧ c ≤ 198 ∧ i = 0) ∨ (c = 199 ∧ i < 10) ∨ (200 ≤ c ∧ c ≤ 202 ∧ i < 3) ∨ (203 ≤ c ∧ c ≤ 205 ∧ i < 4)
section
variable {N nc nl ng : Nat} {s s' sx sx' sm sm' : hq_S}
theorem hu_gM {a b c i : Nat} (h : hk_M a b s s') (v : hu_v c i) : hu_g s' a c i = hu_g s b c i ∧ ∀ a', ¬ a' = a → hu_g s' a' c i = hu_g s a' c i := by
  obtain ⟨h0, -, -, h1, h2, h3, h4⟩ := h
  unfold hu_g
  rcases v with ⟨v1, v2, v3⟩ | ⟨v1, v2⟩ | ⟨v1, v2, v3⟩ | ⟨v1, v2, v3⟩
  · rw [if_pos v2, if_pos v2]
    exact ⟨h1 c v1 v2, fun a' ha => by rw [if_pos v2, if_pos v2]; exact h0 c a' (by unfold hm_sl; omega)⟩
  · rw [if_neg (by omega), if_pos v1, if_neg (by omega), if_pos v1]
    exact ⟨h2 i v2, fun a' ha => by rw [if_neg (by omega), if_pos v1, if_neg (by omega), if_pos v1]; exact h0 199 _ (by unfold hm_sl; omega)⟩
  · rw [if_neg (by omega), if_neg (by omega), if_pos v2, if_neg (by omega), if_neg (by omega), if_pos v2]
    exact ⟨h3 c i v1 v2 v3, fun a' ha => by rw [if_neg (by omega), if_neg (by omega), if_pos v2, if_neg (by omega), if_neg (by omega), if_pos v2]; exact h0 c _ (by unfold hm_sl; omega)⟩
  · rw [if_neg (by omega), if_neg (by omega), if_neg (by omega), if_neg (by omega), if_neg (by omega), if_neg (by omega)]
    exact ⟨h4 c i v1 v2 v3, fun a' ha => by rw [if_neg (by omega), if_neg (by omega), if_neg (by omega), if_neg (by omega), if_neg (by omega), if_neg (by omega)]; exact h0 c _ (by unfold hm_sl; omega)⟩
theorem hu_slg {a b : Nat} {ex : Nat → Nat → Prop} : hu_sl s a b ex ↔ ∀ c i, hu_v c i → ¬ ex c i → hu_g s a c i = hu_g s b c i := by
  constructor
  · rintro ⟨h1, h2, h3, h4⟩ c i v e
    unfold hu_g
    rcases v with ⟨v1, v2, v3⟩ | ⟨v1, v2⟩ | ⟨v1, v2, v3⟩ | ⟨v1, v2, v3⟩
    · rw [if_pos v2, if_pos v2]; subst v3; exact h1 c v1 v2 e
    · subst v1; rw [if_neg (by omega), if_pos rfl, if_neg (by omega), if_pos rfl]; exact h2 i v2 e
    · rw [if_neg (by omega), if_neg (by omega), if_pos v2, if_neg (by omega), if_neg (by omega), if_pos v2]; exact h3 c i v1 v2 v3 e
    · rw [if_neg (by omega), if_neg (by omega), if_neg (by omega), if_neg (by omega), if_neg (by omega), if_neg (by omega)]; exact h4 c i v1 v2 v3 e
  · intro h
    refine ⟨fun c v1 v2 e => ?_, fun i v2 e => ?_, fun c i v1 v2 v3 e => ?_, fun c i v1 v2 v3 e => ?_⟩
    · have := h c 0 (Or.inl ⟨v1, v2, rfl⟩) e
      unfold hu_g at this
      rw [if_pos v2, if_pos v2] at this; exact this
    · have := h 199 i (Or.inr (Or.inl ⟨rfl, v2⟩)) e
      unfold hu_g at this
      rw [if_neg (by omega), if_pos rfl, if_neg (by omega), if_pos rfl] at this; exact this
    · have := h c i (Or.inr (Or.inr (Or.inl ⟨v1, v2, v3⟩))) e
      unfold hu_g at this
      rw [if_neg (by omega), if_neg (by omega), if_pos v2, if_neg (by omega), if_neg (by omega), if_pos v2] at this; exact this
    · have := h c i (Or.inr (Or.inr (Or.inr ⟨v1, v2, v3⟩))) e
      unfold hu_g at this
      rw [if_neg (by omega), if_neg (by omega), if_neg (by omega), if_neg (by omega), if_neg (by omega), if_neg (by omega)] at this; exact this
theorem hu_g200 {a g : Nat} : hu_g s a 200 g = hq_gi s 200 (3 * a + g) := by unfold hu_g; rw [if_neg (by omega), if_neg (by omega), if_pos (by omega)]
theorem hu_g198 {a i : Nat} : hu_g s a 198 i = hq_gi s 198 a := by unfold hu_g; rw [if_pos (by omega)]
theorem hu_g199 {a p : Nat} : hu_g s a 199 p = hq_gi s 199 (10 * a + p) := by unfold hu_g; rw [if_neg (by omega), if_pos rfl]
/-- a deed noted elsewhere, between towns that lie elsewhere -/
theorem hu_deed_t {j j' a a' b b' : Nat} (hng : ng ≤ 3) (hnc : nc ≤ 10) (e1 : hq_gi sx' 171 j' = hq_gi sx 171 j) (e2 : hq_gi sx' 172 j' = hq_gi sx 172 j) (e3 : hq_gi sx' 173 j' = hq_gi sx 173 j) (ea : ∀ c i, hu_v c i → hu_g sm' a' c i = hu_g sm a c i) (eb : ∀ c i, hu_v c i → hu_g sm' b' c i = hu_g sm b c i) (h : hu_deed nc nl ng j a b sx sm) : hu_deed nc nl ng j' a' b' sx' sm' := by
  have sl : ∀ ex, hu_sl sm a b ex → hu_sl sm' a' b' ex := fun ex h => hu_slg.mpr fun c i v e => by rw [ea c i v, eb c i v]; exact hu_slg.mp h c i v e
  rcases h with ⟨g, e, q1, q2, q3, q4, q5, q6, q7⟩ | ⟨w, d, q1, q2, q3, q4, q5, q6, q7⟩ | ⟨p, e, q1, q2, q3, q4, q5, q6, q7⟩
  · refine Or.inl ⟨g, e, q1, q2, by rw [e1]; exact q3, by rw [e2]; exact q4, by rw [e3]; exact q5, ?_, sl _ q7⟩
    rw [← hu_g200, ea 200 g (Or.inr (Or.inr (Or.inl ⟨by omega, by omega, by omega⟩))), hu_g200]; exact q6
  · refine Or.inr (Or.inl ⟨w, d, q1, q2, by rw [e1]; exact q3, by rw [e2]; exact q4, ?_, ?_, sl _ q7⟩)
    · rw [← hu_g198 (i := 0), ea 198 0 (Or.inl ⟨by omega, by omega, rfl⟩), hu_g198]; exact q5
    · rw [← hu_g198 (i := 0), eb 198 0 (Or.inl ⟨by omega, by omega, rfl⟩), hu_g198]; exact q6
  · refine Or.inr (Or.inr ⟨p, e, q1, q2, by rw [e1]; exact q3, by rw [e2]; exact q4, by rw [e3]; exact q5, ?_, sl _ q7⟩)
    rw [← hu_g199, ea 199 p (Or.inr (Or.inl ⟨rfl, by omega⟩)), hu_g199]; exact q6
/-- the reference forgets the first -/
theorem hu_shift (hN : 100 < N) : ∀ (q j m : Nat) (s : hq_S), 1 ≤ j → j + q = 20 → q < m → ∃ s', f_X12_keepNow_L11 N m (Int32.ofNat j) s = f_X12_keepNow_J45 N (hq_si s' 174 48 (hq_gi s' 174 48 - 1)) ∧ (∀ a c i, hu_v c i → hu_g s' a c i = if 2 + j ≤ a ∧ a ≤ 21 then hu_g s (a + 1) c i else hu_g s a c i) ∧ (∀ c i, (c < 196 ∨ 205 < c) → hq_gi s' c i = hq_gi s c i) ∧ (∀ c i, hq_gj s' c i = hq_gj s c i) ∧ ∀ c i, hq_gr s' c i = hq_gr s c i := by
  intro q
  induction q with
  | zero =>
    intro j m s h1 hj hm
    obtain ⟨m, rfl⟩ : ∃ k, m = k + 1 := ⟨m - 1, by omega⟩
    have c : ¬ Int32.ofNat j < (20 : Int32) := by rw [nb_lit 20, nn_lt (by omega) (by omega)]; omega
    refine ⟨s, ?_, fun a c i _ => by rw [if_neg (by omega)], fun _ _ _ => rfl, fun _ _ => rfl, fun _ _ => rfl⟩
    simp only [f_X12_keepNow_L11_s, f_X12_keepNow_L11_B, if_neg c, nn_pi, Option.bind_some]
  | succ q ih =>
    intro j m s h1 hj hm
    obtain ⟨m, rfl⟩ : ∃ k, m = k + 1 := ⟨m - 1, by omega⟩
    have c : Int32.ofNat j < (20 : Int32) := by rw [nb_lit 20, nn_lt (by omega) (by omega)]; omega
    obtain ⟨s1, c1, c2⟩ := hk_copies (N := N) (a := 2 + j) (b := 3 + j) hN (by omega) (by omega) (by omega) s
    obtain ⟨s', i1, i2, i3, i4, i5⟩ := ih (j + 1) m s1 (by omega) (by omega) (by omega)
    have ea : (3 : Int32) + Int32.ofNat j = Int32.ofNat (3 + j) := nb_add 3 j
    have eb : Int32.ofNat (3 + j) - (1 : Int32) = Int32.ofNat (2 + j) := by rw [show 3 + j = 2 + j + 1 by omega, nn_pred]
    refine ⟨s', ?_, fun a c i v => ?_, fun c i hc => (i3 c i hc).trans (c2.1 c i (by unfold hm_sl; omega)), fun c i => (i4 c i).trans (c2.2.1 c i), fun c i => (i5 c i).trans (c2.2.2.1 c i)⟩
    · simp only [f_X12_keepNow_L11_s, f_X12_keepNow_L11_B, if_pos c, ea, eb, c1, Option.bind_some, nn_succ]
      exact i1
    · rw [i2 a c i v]
      obtain ⟨g1, g2⟩ := hu_gM c2 v
      by_cases q1 : a = 2 + j
      · subst q1
        rw [if_neg (by omega), if_pos (by omega), g1, show 2 + j + 1 = 3 + j by omega]
      · by_cases q2 : 2 + (j + 1) ≤ a ∧ a ≤ 21
        · rw [if_pos q2, if_pos (by omega)]
          exact g2 (a + 1) (by omega)
        · rw [if_neg q2, if_neg (by omega)]
          exact g2 a q1
theorem hu_J45 (hN : 100 < N) {n : Nat} (hn : n < 20) (h : hq_gi s 174 48 = Int32.ofNat n) : ∃ s', f_X12_keepNow_J45 N s = some s' ∧ hq_gi s' 174 48 = Int32.ofNat (n + 1) ∧ (∀ a c i, hu_v c i → hu_g s' a c i = if a = 3 + n then hu_g s 0 c i else hu_g s a c i) ∧ (∀ c i, (c < 196 ∨ 205 < c) → ¬ (c = 174 ∧ i = 48) → hq_gi s' c i = hq_gi s c i) ∧ (∀ c i, hq_gj s' c i = hq_gj s c i) ∧ ∀ c i, hq_gr s' c i = hq_gr s c i := by
  obtain ⟨s1, c1, c2⟩ := hk_copies (N := N) (a := 3 + n) (b := 0) hN (by omega) (by omega) (by omega) s
  have c1 : f_X12_copies N (Int32.ofNat (3 + n)) 0 s = some s1 := c1
  have e48 : hq_gi s1 174 48 = Int32.ofNat n := by rw [c2.1 _ _ (by unfold hm_sl; omega)]; exact h
  have ea : (3 : Int32) + Int32.ofNat n = Int32.ofNat (3 + n) := nb_add 3 n
  refine ⟨hq_si s1 174 48 (Int32.ofNat (n + 1)), ?_, nn_g1, fun a c i v => ?_, fun c i hc h2 => ?_, fun c i => c2.2.1 c i, fun c i => c2.2.2.1 c i⟩
  · simp only [f_X12_keepNow_J45, h, ea, c1, Option.bind_some, e48, nn_pi, nn_succ]
  · obtain ⟨g1, g2⟩ := hu_gM c2 v
    have e : hu_g (hq_si s1 174 48 (Int32.ofNat (n + 1))) a c i = hu_g s1 a c i := by
      unfold hu_v at v
      unfold hu_g
      rw [nn_gk (show ¬ c = 174 by omega), nn_gk (show ¬ 199 = 174 by omega), nn_gk (show ¬ c = 174 by omega), nn_gk (show ¬ c = 174 by omega)]
    rw [e]
    by_cases q : a = 3 + n
    · rw [if_pos q, q]; exact g1
    · rw [if_neg q]; exact g2 a q
  · rw [nb_ii, if_neg h2]
    exact c2.1 c i (by unfold hm_sl; omega)
/-- both note a deed -/
theorem hu_note (hN : 100 < N) (hng : ng ≤ 3) (hnc : nc ≤ 10) {k1 w1 e1 : Int32} (U : hu_all nc nl ng sx sm) : ∃ sx' sm' n, n < 20 ∧ f_X1_note N k1 w1 e1 sx = some sx' ∧ f_X12_keepNow N sm = some sm' ∧ hq_gi sx' 170 0 = Int32.ofNat (n + 1) ∧ hq_gi sm' 174 48 = Int32.ofNat (n + 1) ∧ (∀ j, j < n → hu_deed nc nl ng j (3 + j) (4 + j) sx' sm') ∧ (∀ c i, hu_v c i → hu_g sm' (3 + n) c i = hu_g sm 0 c i ∧ hu_g sm' 0 c i = hu_g sm 0 c i ∧ hu_g sm' 2 c i = hu_g sm 2 c i) ∧ (hq_gi sx' 171 n = k1 ∧ hq_gi sx' 172 n = w1 ∧ hq_gi sx' 173 n = e1) ∧ (∀ c i, ¬ (170 ≤ c ∧ c ≤ 173) → hq_gi sx' c i = hq_gi sx c i) ∧ (∀ c i, hq_gj sx' c i = hq_gj sx c i) ∧ (∀ c i, hq_gr sx' c i = hq_gr sx c i) ∧ (∀ c i, (c < 196 ∨ 205 < c) → ¬ (c = 174 ∧ i = 48) → hq_gi sm' c i = hq_gi sm c i) := by
  obtain ⟨n, hn, u1, u2, u3⟩ := U
  -- the class writes at its place n
  have wr : ∀ (z : hq_S) (p : Nat), p < 20 → hq_gi z 170 0 = Int32.ofNat p → (hq_st z 171 20 (hq_gi z 170 0) k1).bind (fun s4 => (hq_st s4 172 20 (hq_gi s4 170 0) w1).bind fun s5 => (hq_st s5 173 20 (hq_gi s5 170 0) e1).bind fun s6 => (hq_pi s6 170 0 0 ((hq_gi s6 170 0) + (1 : Int32))).bind fun s7 => some s7) = some (hq_si (hq_si (hq_si (hq_si z 171 p k1) 172 p w1) 173 p e1) 170 0 (Int32.ofNat (p + 1))) := fun z p hp hz => by
    have st : ∀ (s : hq_S) (c : Nat) (x : Int32), hq_st s c 20 (Int32.ofNat p) x = some (hq_si s c p x) := fun s c x => nn_st hp (by omega)
    simp only [hz, st, Option.bind_some, nn_gk (show ¬ 170 = 171 by decide), nn_gk (show ¬ 170 = 172 by decide), nn_gk (show ¬ 170 = 173 by decide), nn_pi, nn_succ]
  have rd : ∀ (z : hq_S) (p : Nat), hq_gi (hq_si (hq_si (hq_si (hq_si z 171 p k1) 172 p w1) 173 p e1) 170 0 (Int32.ofNat (p + 1))) 171 p = k1 ∧ hq_gi (hq_si (hq_si (hq_si (hq_si z 171 p k1) 172 p w1) 173 p e1) 170 0 (Int32.ofNat (p + 1))) 172 p = w1 ∧ hq_gi (hq_si (hq_si (hq_si (hq_si z 171 p k1) 172 p w1) 173 p e1) 170 0 (Int32.ofNat (p + 1))) 173 p = e1 := fun z p => ⟨by rw [nn_gk (by omega), nn_gk (by omega), nn_gk (by omega), nn_g1], by rw [nn_gk (by omega), nn_gk (by omega), nn_g1], by rw [nn_gk (by omega), nn_g1]⟩
  have rj : ∀ (z : hq_S) (p j c : Nat), ¬ j = p → 171 ≤ c → hq_gi (hq_si (hq_si (hq_si (hq_si z 171 p k1) 172 p w1) 173 p e1) 170 0 (Int32.ofNat (p + 1))) c j = hq_gi z c j := fun z p j c h hc => by rw [nn_gk (by omega), nn_gn h, nn_gn h, nn_gn h]
  by_cases q : n = 20
  · subst q
    have e48 : hq_gi sm 174 48 = 20 := u2
    have c20 : ¬ hq_gi sx 170 0 < (20 : Int32) := by rw [u1]; decide
    obtain ⟨s1, a1, a2, a3, a4, a5⟩ := hu_shift (N := N) hN 19 1 N sm (by omega) (by omega) (by omega)
    have a1 : f_X12_keepNow_L11 N N 1 sm = f_X12_keepNow_J45 N (hq_si s1 174 48 (hq_gi s1 174 48 - 1)) := a1
    have e19 : hq_gi s1 174 48 - 1 = Int32.ofNat 19 := by rw [a3 _ _ (by omega), u2]; decide
    rw [e19] at a1
    obtain ⟨sm', b1, b2, b3, b4, b5, b6⟩ := hu_J45 (N := N) (s := hq_si s1 174 48 (Int32.ofNat 19)) hN (n := 19) (by omega) nn_g1
    have g19 : ∀ a c i, hu_v c i → hu_g (hq_si s1 174 48 (Int32.ofNat 19)) a c i = hu_g s1 a c i := fun a c i v => by
      unfold hu_v at v
      unfold hu_g
      rw [nn_gk (show ¬ c = 174 by omega), nn_gk (show ¬ 199 = 174 by omega), nn_gk (show ¬ c = 174 by omega), nn_gk (show ¬ c = 174 by omega)]
    have gg : ∀ a c i, hu_v c i → hu_g sm' a c i = if a = 22 then hu_g sm 0 c i else if 3 ≤ a ∧ a ≤ 21 then hu_g sm (a + 1) c i else hu_g sm a c i := fun a c i v => by
      rw [b3 a c i v, g19 0 c i v, g19 a c i v, a2 0 c i v, a2 a c i v, if_neg (show ¬ (2 + 1 ≤ 0 ∧ 0 ≤ 21) by omega)]
    -- the class forgets the first
    let z : hq_S := hq_cpS (hq_cpS (hq_cpS (hq_si sx 170 0 19) 171 171 1 0 19) 172 172 1 0 19) 173 173 1 0 19
    have fg : f_X1_forgetFirst N sx = some z := by
      unfold f_X1_forgetFirst
      rw [nn_pi, Option.bind_some]
      have g1 : hq_gi (hq_si sx 170 0 19) 170 0 = 19 := nn_g1
      rw [g1]
      rfl
    have cpi : ∀ (s : hq_S) (k k' i : Nat), hq_gi (hq_cpS s k k 1 0 19) k' i = if k' = k ∧ i < 19 then hq_gi s k (1 + i) else hq_gi s k' i := fun s k k' i => by
      show (if k' = k ∧ (0 ≤ i ∧ i < 0 + 19) then s.1 k (1 + (i - 0)) else s.1 k' i) = _
      by_cases q : k' = k ∧ i < 19
      · rw [if_pos q, if_pos (by omega), Nat.sub_zero]; rfl
      · rw [if_neg q, if_neg (by omega)]; rfl
    have z0 : hq_gi z 170 0 = Int32.ofNat 19 := by
      show hq_gi (hq_cpS _ 173 173 1 0 19) 170 0 = _
      rw [cpi, if_neg (by omega), cpi, if_neg (by omega), cpi, if_neg (by omega), nn_g1]; rfl
    have zo : ∀ c i, ¬ (170 ≤ c ∧ c ≤ 173) → hq_gi z c i = hq_gi sx c i := fun c i hc => by
      show hq_gi (hq_cpS _ 173 173 1 0 19) c i = _
      rw [cpi, if_neg (by omega), cpi, if_neg (by omega), cpi, if_neg (by omega), nn_gk (by omega)]
    have zs : ∀ c j, 171 ≤ c → c ≤ 173 → j < 19 → hq_gi z c j = hq_gi sx c (j + 1) := fun c j h1 h2 hj => by
      show hq_gi (hq_cpS (hq_cpS (hq_cpS _ 171 171 1 0 19) 172 172 1 0 19) 173 173 1 0 19) c j = _
      rw [Nat.add_comm j 1]
      rcases (show c = 171 ∨ c = 172 ∨ c = 173 by omega) with rfl | rfl | rfl
      · rw [cpi, if_neg (by omega), cpi, if_neg (by omega), cpi, if_pos ⟨rfl, hj⟩, nn_gk (by omega)]
      · rw [cpi, if_neg (by omega), cpi, if_pos ⟨rfl, hj⟩, cpi, if_neg (by omega), nn_gk (by omega)]
      · rw [cpi, if_pos ⟨rfl, hj⟩, cpi, if_neg (by omega), cpi, if_neg (by omega), nn_gk (by omega)]
    refine ⟨hq_si (hq_si (hq_si (hq_si z 171 19 k1) 172 19 w1) 173 19 e1) 170 0 (Int32.ofNat (19 + 1)), sm', 19, by omega, ?_, ?_, nn_g1, b2, fun j hj => ?_, fun c i v => ⟨?_, ?_, ?_⟩, rd z 19, fun c i hc => ?_, fun _ _ => rfl, fun _ _ => rfl, fun c i hc h2 => ?_⟩
    · unfold f_X1_note
      rw [if_neg c20, fg, Option.bind_some, Option.bind_some]
      exact wr z 19 (by omega) z0
    · unfold f_X12_keepNow
      rw [if_pos e48, a1]
      exact b1
    · have d := u3 (j + 1) (by omega)
      refine hu_deed_t (j := j + 1) (a := 3 + (j + 1)) (b := if j + 1 + 1 < 20 then 4 + (j + 1) else 0) hng hnc ?_ ?_ ?_ (fun c i v => ?_) (fun c i v => ?_) d
      · rw [rj z 19 j 171 (by omega) (by omega), zs 171 j (by omega) (by omega) hj]
      · rw [rj z 19 j 172 (by omega) (by omega), zs 172 j (by omega) (by omega) hj]
      · rw [rj z 19 j 173 (by omega) (by omega), zs 173 j (by omega) (by omega) hj]
      · rw [gg _ c i v, if_neg (by omega), if_pos (by omega), show 3 + j + 1 = 3 + (j + 1) by omega]
      · rw [gg _ c i v]
        by_cases q2 : j + 1 + 1 < 20
        · rw [if_pos q2, if_neg (by omega), if_pos (by omega), show 4 + j + 1 = 4 + (j + 1) by omega]
        · rw [if_neg q2, if_pos (by omega)]
    · rw [gg _ c i v, if_pos (by omega)]
    · rw [gg _ c i v, if_neg (by omega), if_neg (by omega)]
    · rw [gg _ c i v, if_neg (by omega), if_neg (by omega)]
    · rw [nn_gk (by omega), nn_gk (by omega), nn_gk (by omega), nn_gk (by omega), zo c i hc]
    · rw [b4 c i hc h2, nb_ii, if_neg h2, a3 c i hc]
  · have c20 : hq_gi sx 170 0 < (20 : Int32) := by rw [u1, nb_lit 20, nn_lt (by omega) (by omega)]; omega
    have e48 : ¬ hq_gi sm 174 48 = 20 := by rw [u2]; exact fun h => q ((nn_inj (by omega) (by omega : 20 < 2147483648)).mp h)
    obtain ⟨sm', b1, b2, b3, b4, b5, b6⟩ := hu_J45 (N := N) (s := sm) hN (n := n) (by omega) u2
    refine ⟨hq_si (hq_si (hq_si (hq_si sx 171 n k1) 172 n w1) 173 n e1) 170 0 (Int32.ofNat (n + 1)), sm', n, by omega, ?_, ?_, nn_g1, b2, fun j hj => ?_, fun c i v => ⟨?_, ?_, ?_⟩, rd sx n, fun c i hc => ?_, fun _ _ => rfl, fun _ _ => rfl, b4⟩
    · unfold f_X1_note
      rw [if_pos c20, Option.bind_some]
      exact wr sx n (by omega) u1
    · unfold f_X12_keepNow
      rw [if_neg e48]
      exact b1
    · have d := u3 j hj
      refine hu_deed_t (j := j) (a := 3 + j) (b := if j + 1 < n then 4 + j else 0) hng hnc (rj sx n j 171 (by omega) (by omega)) (rj sx n j 172 (by omega) (by omega)) (rj sx n j 173 (by omega) (by omega)) (fun c i v => ?_) (fun c i v => ?_) d
      · rw [b3 _ c i v, if_neg (by omega)]
      · rw [b3 _ c i v]
        by_cases q2 : j + 1 < n
        · rw [if_pos q2, if_neg (by omega)]
        · rw [if_neg q2, if_pos (by omega)]
    · rw [b3 _ c i v, if_pos rfl]
    · rw [b3 _ c i v, if_neg (by omega)]
    · rw [b3 _ c i v, if_neg (by omega)]
    · rw [nn_gk (by omega), nn_gk (by omega), nn_gk (by omega), nn_gk (by omega)]
end
