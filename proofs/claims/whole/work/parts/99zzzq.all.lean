/-! THE READER: negations; all levels -/
theorem rd_or : tk_c 20 = 12 ∧ ∀ z, z < 22 → tk_c z = 12 → z = 20 := by decide
theorem rd_and : tk_c 19 = 13 ∧ ∀ z, z < 22 → tk_c z = 13 → z = 19 := by decide
theorem rd_not : tk_c 21 = 14 ∧ ∀ z, z < 22 → tk_c z = 14 → z = 21 := by decide
section
variable {N L v k0 : Nat} {t : Nat → Nat} {sx0 sm0 : hq_S} {R0 R1 R2 R3 R4 R5 : hq_S → Option hq_S}
theorem expression_L0 (m : Nat) (s : hq_S) (f : ¬ hq_gi s 174 28 = 0) : f_X12_expression_L4 N R0 R1 R2 R3 R4 R5 (m + 1) s = some s := by
  rw [f_X12_expression_L4_s]
  unfold f_X12_expression_L4_B
  rw [twf f]
  simp only [ob]
  rw [if_pos trivial]
theorem expression_L1 (m p pl q a b : Nat) (sx sm : hq_S) (R : tk_R t L p pl q a b sx sm) (f : hq_gi sm 174 28 = 0) (h : ¬ tl q a = 1) : f_X12_expression_L4 N R0 R1 R2 R3 R4 R5 (m + 1) sm = some sm := by
  rw [f_X12_expression_L4_s]
  unfold f_X12_expression_L4_B
  rw [show (12 : Int32) = Int32.ofNat 12 from rfl, twm (y := 20) R f (by omega) (by omega) rd_or.1 rd_or.2, if_neg (fun w => h (by rw [w.1, w.2]; rfl))]
  simp only [ob]
  rw [if_pos trivial]
theorem expression_L2 (m p pl q a b : Nat) (sx sm : hq_S) (R : tk_R t L p pl q a b sx sm) (f : hq_gi sm 174 28 = 0) (h : tl q a = 1) : f_X12_expression_L4 N R0 R1 R2 R3 R4 R5 (m + 1) sm = (f_X12_knot N sm).bind fun s4 => (f_X12_goOn N s4).bind fun s5 => (R1 s5).bind fun s6 => (f_X12_puts N 2 (Int32.ofNat (rcd a)) s6).bind fun s7 => f_X12_expression_L4 N R0 R1 R2 R3 R4 R5 m s7 := by
  have hc : q = 3 ∧ a = 20 := by
    rcases tl_cases R.2.2.2.2.2.2.1 (by omega) with ⟨e, ⟨e1, -, e2⟩ | ⟨e1, -, e2⟩ | ⟨e1, -, e2⟩⟩ | ⟨e, -, ⟨e1, e2⟩ | ⟨e1, e2⟩ | ⟨e1, e2⟩⟩
    all_goals first | exact ⟨e, e1⟩ | omega
  rw [f_X12_expression_L4_s]
  unfold f_X12_expression_L4_B
  rw [show (12 : Int32) = Int32.ofNat 12 from rfl, twm (y := 20) R f (by omega) (by omega) rd_or.1 rd_or.2, if_pos hc]
  simp only [ob]
  rw [if_neg (by decide), hc.2]
  rfl
theorem conjunction_L0 (m : Nat) (s : hq_S) (f : ¬ hq_gi s 174 28 = 0) : f_X12_conjunction_L4 N R0 R1 R2 R3 R4 R5 (m + 1) s = some s := by
  rw [f_X12_conjunction_L4_s]
  unfold f_X12_conjunction_L4_B
  rw [twf f]
  simp only [ob]
  rw [if_pos trivial]
theorem conjunction_L1 (m p pl q a b : Nat) (sx sm : hq_S) (R : tk_R t L p pl q a b sx sm) (f : hq_gi sm 174 28 = 0) (h : ¬ tl q a = 2) : f_X12_conjunction_L4 N R0 R1 R2 R3 R4 R5 (m + 1) sm = some sm := by
  rw [f_X12_conjunction_L4_s]
  unfold f_X12_conjunction_L4_B
  rw [show (13 : Int32) = Int32.ofNat 13 from rfl, twm (y := 19) R f (by omega) (by omega) rd_and.1 rd_and.2, if_neg (fun w => h (by rw [w.1, w.2]; rfl))]
  simp only [ob]
  rw [if_pos trivial]
theorem conjunction_L2 (m p pl q a b : Nat) (sx sm : hq_S) (R : tk_R t L p pl q a b sx sm) (f : hq_gi sm 174 28 = 0) (h : tl q a = 2) : f_X12_conjunction_L4 N R0 R1 R2 R3 R4 R5 (m + 1) sm = (f_X12_knot N sm).bind fun s4 => (f_X12_goOn N s4).bind fun s5 => (R2 s5).bind fun s6 => (f_X12_puts N 2 (Int32.ofNat (rcd a)) s6).bind fun s7 => f_X12_conjunction_L4 N R0 R1 R2 R3 R4 R5 m s7 := by
  have hc : q = 3 ∧ a = 19 := by
    rcases tl_cases R.2.2.2.2.2.2.1 (by omega) with ⟨e, ⟨e1, -, e2⟩ | ⟨e1, -, e2⟩ | ⟨e1, -, e2⟩⟩ | ⟨e, -, ⟨e1, e2⟩ | ⟨e1, e2⟩ | ⟨e1, e2⟩⟩
    all_goals first | exact ⟨e, e1⟩ | omega
  rw [f_X12_conjunction_L4_s]
  unfold f_X12_conjunction_L4_B
  rw [show (13 : Int32) = Int32.ofNat 13 from rfl, twm (y := 19) R f (by omega) (by omega) rd_and.1 rd_and.2, if_pos hc]
  simp only [ob]
  rw [if_neg (by decide), hc.2]
  rfl
theorem sum_L0 (m : Nat) (s : hq_S) (f : ¬ hq_gi s 174 28 = 0) : f_X12_sum_L4 N R0 R1 R2 R3 R4 R5 (m + 1) s = some s := by
  rw [f_X12_sum_L4_s]
  unfold f_X12_sum_L4_B
  rw [tsf f]
  simp only [ob]
  rw [if_pos trivial, tsf f]
  simp only [ob]
  rw [if_pos trivial]
theorem sum_L1 (m p pl q a b : Nat) (sx sm : hq_S) (R : tk_R t L p pl q a b sx sm) (f : hq_gi sm 174 28 = 0) (h : ¬ tl q a = 5) : f_X12_sum_L4 N R0 R1 R2 R3 R4 R5 (m + 1) sm = some sm := by
  rw [f_X12_sum_L4_s]
  unfold f_X12_sum_L4_B
  rw [show (43 : Int32) = Int32.ofNat 43 from rfl, tsm R f (by omega), if_neg (fun w => h (by rw [w.1, w.2]; rfl))]
  simp only [ob]
  rw [if_pos trivial, show (45 : Int32) = Int32.ofNat 45 from rfl, tsm R f (by omega), if_neg (fun w => h (by rw [w.1, w.2]; rfl))]
  simp only [ob]
  rw [if_pos trivial]
theorem sum_L2 (m p pl q a b : Nat) (sx sm : hq_S) (R : tk_R t L p pl q a b sx sm) (f : hq_gi sm 174 28 = 0) (h : tl q a = 5) : f_X12_sum_L4 N R0 R1 R2 R3 R4 R5 (m + 1) sm = (f_X12_knot N sm).bind fun s4 => (f_X12_goOn N s4).bind fun s5 => (R4 s5).bind fun s6 => (f_X12_puts N 2 (Int32.ofNat (rcd a)) s6).bind fun s7 => f_X12_sum_L4 N R0 R1 R2 R3 R4 R5 m s7 := by
  have hc : q = 5 ∧ a = b ∧ (a = 43 ∨ a = 45) := by
    rcases tl_cases R.2.2.2.2.2.2.1 (by omega) with ⟨e, ⟨e1, -, e2⟩ | ⟨e1, -, e2⟩ | ⟨e1, -, e2⟩⟩ | ⟨e, eb, ⟨e1, e2⟩ | ⟨e1, e2⟩ | ⟨e1, e2⟩⟩
    all_goals first | exact ⟨e, eb, e1⟩ | omega
  have vb : hq_gi sm 174 27 = Int32.ofNat (rcd a) := by
    rw [(R.2.2.2.2.2.2.2 (by omega)).2, ← hc.2.1]
    rcases hc.2.2 with e | e <;> rw [e] <;> rfl
  rw [f_X12_sum_L4_s]
  unfold f_X12_sum_L4_B f_X12_sum_J22
  rw [show (43 : Int32) = Int32.ofNat 43 from rfl, tsm R f (by omega)]
  simp only [ob]
  rw [show (45 : Int32) = Int32.ofNat 45 from rfl, tsm R f (by omega)]
  simp only [ob]
  rw [vb]
  rcases hc.2.2 with e | e
  · rw [if_pos (show q = 5 ∧ a = 43 from ⟨hc.1, e⟩), if_neg (show ¬ (1 : Int32) = 0 by decide)]
  · rw [if_neg (show ¬ (q = 5 ∧ a = 43) from fun w => by omega), if_pos (show (0 : Int32) = 0 from rfl), if_pos (show q = 5 ∧ a = 45 from ⟨hc.1, e⟩), if_neg (show ¬ (1 : Int32) = 0 by decide)]
theorem product_L0 (m : Nat) (s : hq_S) (f : ¬ hq_gi s 174 28 = 0) : f_X12_product_L4 N R0 R1 R2 R3 R4 R5 (m + 1) s = some s := by
  rw [f_X12_product_L4_s]
  unfold f_X12_product_L4_B
  rw [tsf f]
  simp only [ob]
  rw [if_pos trivial, tsf f]
  simp only [ob]
  rw [if_pos trivial]
theorem product_L1 (m p pl q a b : Nat) (sx sm : hq_S) (R : tk_R t L p pl q a b sx sm) (f : hq_gi sm 174 28 = 0) (h : ¬ tl q a = 6) : f_X12_product_L4 N R0 R1 R2 R3 R4 R5 (m + 1) sm = some sm := by
  rw [f_X12_product_L4_s]
  unfold f_X12_product_L4_B
  rw [show (42 : Int32) = Int32.ofNat 42 from rfl, tsm R f (by omega), if_neg (fun w => h (by rw [w.1, w.2]; rfl))]
  simp only [ob]
  rw [if_pos trivial, show (47 : Int32) = Int32.ofNat 47 from rfl, tsm R f (by omega), if_neg (fun w => h (by rw [w.1, w.2]; rfl))]
  simp only [ob]
  rw [if_pos trivial]
theorem product_L2 (m p pl q a b : Nat) (sx sm : hq_S) (R : tk_R t L p pl q a b sx sm) (f : hq_gi sm 174 28 = 0) (h : tl q a = 6) : f_X12_product_L4 N R0 R1 R2 R3 R4 R5 (m + 1) sm = (f_X12_knot N sm).bind fun s4 => (f_X12_goOn N s4).bind fun s5 => (R5 s5).bind fun s6 => (f_X12_puts N 2 (Int32.ofNat (rcd a)) s6).bind fun s7 => f_X12_product_L4 N R0 R1 R2 R3 R4 R5 m s7 := by
  have hc : q = 5 ∧ a = b ∧ (a = 42 ∨ a = 47) := by
    rcases tl_cases R.2.2.2.2.2.2.1 (by omega) with ⟨e, ⟨e1, -, e2⟩ | ⟨e1, -, e2⟩ | ⟨e1, -, e2⟩⟩ | ⟨e, eb, ⟨e1, e2⟩ | ⟨e1, e2⟩ | ⟨e1, e2⟩⟩
    all_goals first | exact ⟨e, eb, e1⟩ | omega
  have vb : hq_gi sm 174 27 = Int32.ofNat (rcd a) := by
    rw [(R.2.2.2.2.2.2.2 (by omega)).2, ← hc.2.1]
    rcases hc.2.2 with e | e <;> rw [e] <;> rfl
  rw [f_X12_product_L4_s]
  unfold f_X12_product_L4_B f_X12_product_J22
  rw [show (42 : Int32) = Int32.ofNat 42 from rfl, tsm R f (by omega)]
  simp only [ob]
  rw [show (47 : Int32) = Int32.ofNat 47 from rfl, tsm R f (by omega)]
  simp only [ob]
  rw [vb]
  rcases hc.2.2 with e | e
  · rw [if_pos (show q = 5 ∧ a = 42 from ⟨hc.1, e⟩), if_neg (show ¬ (1 : Int32) = 0 by decide)]
  · rw [if_neg (show ¬ (q = 5 ∧ a = 42) from fun w => by omega), if_pos (show (0 : Int32) = 0 from rfl), if_pos (show q = 5 ∧ a = 47 from ⟨hc.1, e⟩), if_neg (show ¬ (1 : Int32) = 0 by decide)]
end
section
variable {N L v k0 p pl q a b nf op kt pc kn d : Nat} {t : Nat → Nat} {sx0 sm0 sx sm : hq_S} {P Q : List Nat}
/-- a not -/
theorem ns (hN : 1000 < N) (h : EX t L v k0 sx0 sm0 P [] p pl q a b 1 nf op kt kn kn d sx sm) (hnf : nf = 1) (hq : q = 3) (ha : a = 21) :
    (∃ p' pl' q' a' b' s4 sx' sm', stp N sx = some (1, sx') ∧ f_X12_knot N sm = some s4 ∧ f_X12_goOn N s4 = some sm' ∧ EX t L v k0 sx0 sm0 (21 :: P) [] p' pl' q' a' b' 1 1 op (kt + 1) kn kn d sx' sm' ∧ p ≤ pl' ∧ kt < 64) ∨ ∃ sx' sm', stp N sx = some (0, sx') ∧ f_X12_knot N sm = some sm' ∧ bad sx' sm' := by
  have f0 := EX_f h
  have hlen := EX_len h
  obtain ⟨R, ⟨hv, gv⟩, ⟨s1, s2⟩, ⟨o1, o2, o3, o4, o5⟩, ⟨u1, u2⟩, ⟨c1, c2, c3⟩, ⟨m1, m2, m3, m4, m5⟩, ⟨m6, m7⟩, w, kx, km, z⟩ := id h
  simp only [List.length_nil, Nat.zero_add] at s1 hlen
  have e3 : (hq_gi sx 49 4 = 3) = (q = 3) := tk_kx R 3 (by omega)
  have va : hq_gi sx 49 5 = 21 := by rw [(R.2.2.2.2.2.2.2 (by omega)).1, ha]; rfl
  have st : stp N sx = (f_X6_hang N 21 sx).bind fun s21 => (f_X6_passKnot N s21).bind fun y22 => if mm_rfit (mm_ret mc_X6_readSide) y22.1 = true then some (y22.1, y22.2) else none := by
    rw [stp_s h]
    unfold f_X6_readSide f_X9_isKey
    rw [show (40 : Int32) = Int32.ofNat 40 from rfl, tsx R (by omega), if_neg (fun w => by omega)]
    simp only [ob]
    rw [if_pos trivial, u2, hnf, if_neg (by decide), ie e3, if_pos hq, va, if_pos rfl]
    simp only [ob]
    rw [if_neg (by decide)]
  rw [st]
  by_cases hk : kt < 64
  · rw [hang_v s1 (by omega)]
    simp only [ob]
    rw [pk_v (s := hq_si (hq_si sx 75 P.length 21) 48 3 (Int32.ofNat (P.length + 1))) (kt := kt) hv gv (by rw [nn_n (by omega), nn_n (by omega)]; exact c2) hk]
    generalize esx : hq_si (hq_si (hq_si sx 75 P.length 21) 48 3 (Int32.ofNat (P.length + 1))) (v + 9) 0 (Int32.ofNat (kt + 1)) = sx2
    have X : ∀ k i, ¬ (k = v + 9 ∧ i = 0) → ¬ (k = 48 ∧ i = 3) → ¬ (k = 75 ∧ i = P.length) → hq_gi sx2 k i = hq_gi sx k i := fun k i n1 n2 n3 => by rw [← esx, nn_n n1, nn_n n2, nn_n n3]
    have h2 : EX t L v k0 sx0 sm0 (21 :: P) [] p pl q a b 1 1 op (kt + 1) kn kn d sx2 (hq_si sm 174 33 (Int32.ofNat (kt + 1))) := by
      refine EX_mk h (fun k i n1 n2 n3 n4 => X k i (by omega) (by omega) (by omega)) (by rw [← esx]; rfl) (fun k i n1 n2 n3 => nn_n (by omega)) rfl ?_ ⟨⟨?_, by omega⟩, ?_⟩ o1 ?_ ge_nil ((X _ _ (by omega) (by omega) (by omega)).trans o4) ((nn_n (by omega)).trans o5) ((X _ _ (by omega) (by omega) (by omega)).trans u1) ((X _ _ (by omega) (by omega) (by omega)).trans (by rw [u2, hnf])) (by omega) (by rw [← esx, nn_g1]) nn_g1 (Nat.le_refl _) (by simp) ?_ ((X _ _ (by omega) (by omega) (by omega)).trans m4) ((nn_n (by omega)).trans m5) (fun j j1 j2 => by omega) trivial (dpt_k w (fun j _ => ⟨nn_n (by omega), nn_n (by omega)⟩))
      · rw [← esx, nn_n (by omega), nn_g1]
        simp
      · rw [← esx, nn_n (by omega), nn_n (by omega)]
        exact nn_g1
      · exact stk_k _ _ (Nat.le_refl _) (fun i hi => X _ _ (by omega) (by omega) (by omega)) s2
      · show (if 21 = 40 then 1 else 0) + br P = op
        rw [if_neg (by omega)]; omega
      · show kn + ((if 21 = 40 then 0 else 1) + sg P) = kt + 1
        rw [if_neg (by omega)]; omega
    obtain ⟨p', pl', q', a', b', sx3, sm3, r1, r2, r3, r4⟩ := EX_adv hN h2
    rw [r1]
    simp only [ob]
    rw [if_pos (show mm_rfit (mm_ret mc_X6_readSide) 1 = true from rfl)]
    exact Or.inl ⟨p', pl', q', a', b', _, sx3, sm3, rfl, knot_v f0 c3 hk, goOn_v (EX_f h2) r2, r3, r4, hk⟩
  · have hk' : kt = 64 := by omega
    obtain ⟨s15, g1, g2, g3⟩ := hang_t (N := N) (x := 21) s1 (by omega)
    rw [g1]
    simp only [ob]
    rw [pk_f (s := s15) hv (show hq_gr s15 48 1 = v by unfold hq_gr at gv ⊢; rw [g3]; exact gv) (by rw [g2 _ _ (by omega) (by omega), c2, hk'])]
    simp only [ob]
    rw [if_pos (show mm_rfit (mm_ret mc_X6_readSide) 0 = true from rfl)]
    exact Or.inr ⟨_, _, rfl, knot_64 f0 (by rw [c3, hk']), bad_mk R (s := s15) (g2 _ _ (by omega) (by omega)) (f := 2) (by omega) (by omega)⟩
theorem ng_if (R : tk_R t L p pl q a b sx sm) (f0 : hq_gi sm 174 28 = 0) {A B : Option hq_S} : (if (hq_gi sm 174 28) = 0 then if (hq_gi sm 174 26) = (3 : Int32) then if (hq_gi sm 174 27) = (60 : Int32) then A else if (hq_gi sm 174 27) = (62 : Int32) then A else if (hq_gi sm 174 27) = (61 : Int32) then A else if (hq_gi sm 174 27) < (256 : Int32) then B else A else B else B) = if tl q a = 4 then A else B := by
  have e5 : (hq_gi sm 174 26 = 3) = (q = 5) := tk_km R 5 (by omega)
  rw [if_pos f0, ie e5]
  by_cases c : q = 5
  · have vb := (R.2.2.2.2.2.2.2 (by omega)).2
    have la := tl_a R.2.2.2.2.2.2.1 (Or.inr c)
    obtain ⟨hab, hs⟩ := R.2.2.2.2.2.2.1.2.2.2.2 c
    rw [if_pos c, vb, ← hab, ie (show (Int32.ofNat a = 60) = (a = 60) from nb_eq (b := 60) (by omega) (by omega)), ie (show (Int32.ofNat a = 61) = (a = 61) from nb_eq (b := 61) (by omega) (by omega)), ie (show (Int32.ofNat a = 62) = (a = 62) from nb_eq (b := 62) (by omega) (by omega)), ie (show (Int32.ofNat a < 256) = (a < 256) from nb_ltp (b := 256) (by omega) (by omega))]
    have tv : tl q a = lv a := by unfold tl; rw [if_pos (Or.inr c)]
    rw [tv]
    by_cases c0 : a = 60
    · rw [if_pos c0, if_pos (by rw [c0]; rfl)]
    · rw [if_neg c0]
      by_cases c2 : a = 62
      · rw [if_pos c2, if_pos (by rw [c2]; rfl)]
      · rw [if_neg c2]
        by_cases c1 : a = 61
        · rw [if_pos c1, if_pos (by rw [c1]; rfl)]
        · rw [if_neg c1]
          rcases hs with e | e | e | e
          · have := sgm_lt e
            rw [if_pos (by omega), if_neg]
            intro w
            have := lv_s a (sgm_lt e) e (by omega)
            rcases this with e | e | e | e | e | e | e
            all_goals first | omega | (rw [e] at w; exact absurd w (by decide))
          · rw [if_neg (by omega), if_pos (by rw [e]; rfl)]
          · rw [if_neg (by omega), if_pos (by rw [e]; rfl)]
          · rw [if_neg (by omega), if_pos (by rw [e]; rfl)]
  · rw [if_neg c, if_neg]
    intro w
    rcases tl_cases R.2.2.2.2.2.2.1 (by omega) with ⟨e, ⟨e1, -, e2⟩ | ⟨e1, -, e2⟩ | ⟨e1, -, e2⟩⟩ | ⟨e, -, e1⟩
    all_goals omega
theorem ng_all (hN : 1000 < N) {k : Nat} {R0 R1 R2 R3 R4 R5 : hq_S → Option hq_S} (F2 : ∀ s, ¬ hq_gi s 174 28 = 0 → R2 s = some s) (F3 : ∀ s, ¬ hq_gi s 174 28 = 0 → R3 s = some s) (H2 : HR N t L v k0 sx0 sm0 R2 2 k) (H3 : HR N t L v k0 sx0 sm0 R3 3 k) : HR N t L v k0 sx0 sm0 (f_X12_negation_S N R0 R1 R2 R3 R4 R5) 2 (k + 1) := by
  intro P p pl q a b nf op kt kn d sx sm h hP hnf fu
  have f0 := EX_f h
  have hpl := EX_pl h
  have hnf1 : nf = 1 := hnf.elim (fun w => w.2) (fun w => absurd w.1 (by omega))
  have hP4 : top 4 P := hP
  unfold f_X12_negation_S
  rw [show (14 : Int32) = Int32.ofNat 14 from rfl, twm (y := 21) h.1 f0 (by omega) (by omega) rd_not.1 rd_not.2]
  simp only [ob]
  by_cases hq : q = 3 ∧ a = 21
  · rw [if_pos hq, if_neg (by decide)]
    rcases ns hN h hnf1 hq.1 hq.2 with ⟨p', pl', q', a', b', s4, sx', sm', e1, e2, e3, h1, e4, e5⟩ | ⟨sx', sm', e1, e2, e3⟩
    · have hpl1 := EX_pl h1
      have hp := hpl.2.2.1 (by omega)
      rw [e2]
      simp only [ob]
      rw [e3]
      simp only [ob]
      obtain ⟨s6, g1, g2⟩ := H2 (21 :: P) p' pl' q' a' b' 1 op (kt + 1) kn d sx' sm' h1 (show lv 21 < 4 by decide) (Or.inl ⟨by omega, rfl⟩) (by omega)
      rw [g1]
      simp only [ob]
      rcases g2 with ⟨j, sx2, Q', p2, pl2, q2, a2, b2, nf2, kt2, pc2, kn2, k1, k2, k3, h2, k5, k6⟩ | ⟨j, sx2, sx3, k1, k2, k3, k4⟩
      · obtain ⟨s7, w1, w2⟩ := EX_puts (N := N) (x := 21) (y := 260) (d' := d + 1) h2 (by omega) (by decide) (Or.inr (Or.inr ⟨rfl, Or.inl ⟨rfl, rfl⟩⟩)) (Or.inr (Or.inl ⟨rfl, rfl, by omega, rfl⟩))
        rw [w1]
        exact ⟨s7, rfl, Or.inl ⟨1 + j, sx2, Q' ++ [21], p2, pl2, q2, a2, b2, nf2, kt2, pc2, kn2 + 1, rch_tr _ _ _ _ _ (rch_1 e1) k1, by omega, by omega, w2, ge_app k5 (ge_one (by decide)), by rw [List.append_assoc]; exact k6⟩⟩
      · rw [puts_f (bad_n k3)]
        exact ⟨s6, rfl, Or.inr ⟨1 + j, sx2, sx3, rch_tr _ _ _ _ _ (rch_1 e1) k1, k2, k3, by omega⟩⟩
    · rw [e2]
      simp only [ob]
      rw [goOn_f (bad_n e3)]
      simp only [ob]
      rw [F2 sm' (bad_n e3)]
      simp only [ob]
      rw [puts_f (bad_n e3)]
      exact ⟨sm', rfl, Or.inr ⟨0, sx, sx', rfl, e1, e3, by omega⟩⟩
  · rw [if_neg hq, if_pos rfl]
    obtain ⟨s3, g1, g2⟩ := H3 P p pl q a b nf op kt kn d sx sm h (top_mono hP4 (show 4 ≤ 5 by omega)) (Or.inr ⟨by omega, Or.inr ⟨hnf1, hq⟩⟩) (by omega)
    rw [g1]
    simp only [ob]
    rcases g2 with ⟨j, sx2, Q, p2, pl2, q2, a2, b2, nf2, kt2, pc2, kn2, k1, k2, k3, h2, k5, k6⟩ | ⟨j, sx2, sx3, k1, k2, k3, k4⟩
    · have f2 := EX_f h2
      rw [ng_if h2.1 f2]
      by_cases c4 : tl q2 a2 = 4
      · rw [if_pos c4]
        obtain ⟨sx1, r1, r2⟩ := rj_cmp hN h2 c4 k5 hP4
        have hst : stp N sx2 = f_X6_readJoint_J167 N (lvI 4) sx1 := (stp_j h2).trans r1
        have hab : a2 = b2 ∧ (a2 = 60 ∨ a2 = 61 ∨ a2 = 62 ∨ a2 = 256 ∨ a2 = 257 ∨ a2 = 258) ∧ q2 = 5 := by
          rcases tl_cases h2.1.2.2.2.2.2.2.1 (by omega) with ⟨e, ⟨e1, -, e2⟩ | ⟨e1, -, e2⟩ | ⟨e1, -, e2⟩⟩ | ⟨e, eb, ⟨e1, e2⟩ | ⟨e1, e2⟩ | ⟨e1, e2⟩⟩
          all_goals first | exact ⟨eb, e1, e⟩ | omega
        have vb : hq_gi s3 174 27 = Int32.ofNat (rcd a2) := by
          rw [(h2.1.2.2.2.2.2.2.2 (by omega)).2, ← hab.1]
          rcases hab.2.1 with e | e | e | e | e | e <;> rw [e] <;> rfl
        have hal : lv a2 = 4 := by
          obtain ⟨-, -, -, e, -⟩ := tl_op h2.1.2.2.2.2.2.2.1 (by omega)
          omega
        unfold f_X12_negation_J87
        rw [vb]
        rcases lp_one hN (l := 4) (by omega) (by omega) (show 4 < lp 3 by decide) (Or.inr ⟨by omega, by omega⟩) F3 H3 r2 hst c4 ge_nil hP4 (by omega) with ⟨s4, s5, s6, s7, e1, e2, e3, e4, j', sx', Q', p', pl', q', a', b', nf', kt', pc', kn', g1, g2, g3, g4, g5, g6, g7⟩ | ⟨s4, s5, s6, e1, e2, e3, e4, e5, j', sx', sx4, g1, g2, g3, g4⟩
        · rw [e1]
          simp only [ob]
          rw [e2]
          simp only [ob]
          rw [e3]
          simp only [ob]
          rw [e4]
          refine ⟨s7, rfl, Or.inl ⟨j + j', sx', Q' ++ [a2], p', pl', q', a', b', nf', kt', pc', kn', rch_tr _ _ _ _ _ k1 g1, by omega, by omega, g5, ge_app (ge_mono g6 (by decide)) (ge_one (by rw [hal]; decide)), ?_⟩⟩
          obtain ⟨t6, t5, -, -, -⟩ := g7
          exact ⟨fun _ => t6 (by omega), fun _ => t5 (by omega), fun _ _ => by rw [List.append_assoc]; exact ct_app hal Q' g6, fun c => absurd c (by omega), fun c => absurd c (by omega)⟩
        · rw [e1]
          simp only [ob]
          rw [e2]
          simp only [ob]
          rw [e3]
          simp only [ob]
          rw [e4]
          exact ⟨s6, rfl, Or.inr ⟨j + j', sx', sx4, rch_tr _ _ _ _ _ k1 g1, g2, g3, by omega⟩⟩
      · rw [if_neg c4]
        obtain ⟨t6, t5, -, -, -⟩ := k6
        exact ⟨s3, rfl, Or.inl ⟨j, sx2, Q, p2, pl2, q2, a2, b2, nf2, kt2, pc2, kn2, k1, k2, k3, h2, ge_mono k5 (by decide), ⟨fun _ => t6 (by omega), fun _ => t5 (by omega), fun _ e => absurd e c4, fun c => absurd c (by omega), fun c => absurd c (by omega)⟩⟩⟩
    · rw [if_neg (bad_n k3)]
      exact ⟨s3, rfl, Or.inr ⟨j, sx2, sx3, k1, k2, k3, k4⟩⟩
end
/-- all levels -/
theorem G_all {N L v k0 : Nat} {t : Nat → Nat} {sx0 sm0 : hq_S} (hN : 1000 < N) : ∀ (k c : Nat), c ≤ 5 → HR N t L v k0 sx0 sm0 (f_X12_expression_G N k c) c k := by
  intro k
  induction k with
  | zero =>
    intro c hc P p pl q a b nf op kt kn d sx sm h hP hnf fu
    omega
  | succ k ih =>
    intro c hc P p pl q a b nf op kt kn d sx sm h hP hnf fu
    have F : ∀ c', c' ≤ 5 → 6 ≤ k + c' → ∀ s, ¬ hq_gi s 174 28 = 0 → f_X12_expression_G N k c' s = some s := fun c' h1 h2 => gf hN k c' h1 h2
    match c, hc with
    | 0, _ =>
      rw [G_0]
      exact lv_gen hN (Or.inl ⟨rfl, rfl⟩) (F 1 (by omega) (by omega)) (ih 1 (by omega)) expression_L0 expression_L1 expression_L2 P p pl q a b nf op kt kn d sx sm h hP hnf fu
    | 1, _ =>
      rw [G_1]
      exact lv_gen hN (Or.inr (Or.inl ⟨rfl, rfl⟩)) (F 2 (by omega) (by omega)) (ih 2 (by omega)) conjunction_L0 conjunction_L1 conjunction_L2 P p pl q a b nf op kt kn d sx sm h hP hnf fu
    | 2, _ =>
      rw [G_2]
      exact ng_all hN (F 2 (by omega) (by omega)) (F 3 (by omega) (by omega)) (ih 2 (by omega)) (ih 3 (by omega)) P p pl q a b nf op kt kn d sx sm h hP hnf fu
    | 3, _ =>
      rw [G_3]
      exact lv_gen hN (Or.inr (Or.inr (Or.inl ⟨rfl, rfl⟩))) (F 4 (by omega) (by omega)) (ih 4 (by omega)) sum_L0 sum_L1 sum_L2 P p pl q a b nf op kt kn d sx sm h hP hnf fu
    | 4, _ =>
      rw [G_4]
      exact lv_gen hN (Or.inr (Or.inr (Or.inr ⟨rfl, rfl⟩))) (F 5 (by omega) (by omega)) (ih 5 (by omega)) product_L0 product_L1 product_L2 P p pl q a b nf op kt kn d sx sm h hP hnf fu
    | 5, _ =>
      rw [G_5]
      exact pr_all hN (ih 0 (by omega)) h hnf fu
