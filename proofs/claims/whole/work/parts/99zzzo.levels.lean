/-! THE READER: the levels of a law -/
theorem G_0 {n k : Nat} {s : hq_S} : f_X12_expression_G n (k + 1) 0 s = f_X12_expression_S n (f_X12_expression_G n k 0) (f_X12_expression_G n k 1) (f_X12_expression_G n k 2) (f_X12_expression_G n k 3) (f_X12_expression_G n k 4) (f_X12_expression_G n k 5) s := rfl
theorem G_1 {n k : Nat} {s : hq_S} : f_X12_expression_G n (k + 1) 1 s = f_X12_conjunction_S n (f_X12_expression_G n k 0) (f_X12_expression_G n k 1) (f_X12_expression_G n k 2) (f_X12_expression_G n k 3) (f_X12_expression_G n k 4) (f_X12_expression_G n k 5) s := rfl
theorem G_2 {n k : Nat} {s : hq_S} : f_X12_expression_G n (k + 1) 2 s = f_X12_negation_S n (f_X12_expression_G n k 0) (f_X12_expression_G n k 1) (f_X12_expression_G n k 2) (f_X12_expression_G n k 3) (f_X12_expression_G n k 4) (f_X12_expression_G n k 5) s := rfl
theorem G_3 {n k : Nat} {s : hq_S} : f_X12_expression_G n (k + 1) 3 s = f_X12_sum_S n (f_X12_expression_G n k 0) (f_X12_expression_G n k 1) (f_X12_expression_G n k 2) (f_X12_expression_G n k 3) (f_X12_expression_G n k 4) (f_X12_expression_G n k 5) s := rfl
theorem G_4 {n k : Nat} {s : hq_S} : f_X12_expression_G n (k + 1) 4 s = f_X12_product_S n (f_X12_expression_G n k 0) (f_X12_expression_G n k 1) (f_X12_expression_G n k 2) (f_X12_expression_G n k 3) (f_X12_expression_G n k 4) (f_X12_expression_G n k 5) s := rfl
theorem G_5 {n k : Nat} {s : hq_S} : f_X12_expression_G n (k + 1) 5 s = f_X12_primary_S n (f_X12_expression_G n k 0) (f_X12_expression_G n k 1) (f_X12_expression_G n k 2) (f_X12_expression_G n k 3) (f_X12_expression_G n k 4) (f_X12_expression_G n k 5) s := rfl
def HR (N : Nat) (t : Nat → Nat) (L v k0 : Nat) (sx0 sm0 : hq_S) (R : hq_S → Option hq_S) (c k : Nat) : Prop := ∀ (P : List Nat) (p pl q a b nf op kt kn d : Nat) (sx sm : hq_S), EX t L v k0 sx0 sm0 P [] p pl q a b 1 nf op kt kn kn d sx sm → top (lp c) P → nfc c nf q a → 6 * (8 - op) + (64 - kt) + 12 ≤ k + c → OUT N t L v k0 sx0 sm0 (R sm) c P op kt d pl sx
section
variable {N L v k0 p pl q a b due nf op kt pc kn d : Nat} {t : Nat → Nat} {sx0 sm0 sx sm : hq_S} {P Q : List Nat}
theorem EX_puts {x d' : Nat} {y : Int32} (h : EX t L v k0 sx0 sm0 (x :: P) Q p pl q a b due nf op kt pc kn d sx sm) (hx : ¬ x = 40) (hlx : 1 ≤ lv x) (hk : hr_knot (Int32.ofNat (20000 + x)) 2 y) (hd : hr_dep 2 y d d') : ∃ sm', f_X12_puts N 2 y sm = some sm' ∧ EX t L v k0 sx0 sm0 P (Q ++ [x]) p pl q a b due nf op kt pc (kn + 1) d' sx sm' := by
  have f0 := EX_f h
  have hlen := EX_len h
  obtain ⟨R, ⟨hv, gv⟩, ⟨s1, s2⟩, ⟨o1, o2, o3, o4, o5⟩, ⟨u1, u2⟩, ⟨c1, c2, c3⟩, ⟨m1, m2, m3, m4, m5⟩, ⟨m6, m7⟩, w, kx, km, z⟩ := id h
  have hsg : sg (x :: P) = 1 + sg P := by show (if x = 40 then 0 else 1) + sg P = _; rw [if_neg hx]
  have hbr : br (x :: P) = br P := by show (if x = 40 then 1 else 0) + br P = _; rw [if_neg hx]; omega
  refine ⟨_, puts_v f0 m5 (by omega), ?_⟩
  generalize esm : hq_si (hq_si (hq_si sm 192 (64 + kn) 2) 193 (64 + kn) y) 176 13 (Int32.ofNat (kn + 1)) = sm2
  have M : ∀ k i, ¬ (k = 176 ∧ i = 13) → ¬ (k = 193 ∧ i = 64 + kn) → ¬ (k = 192 ∧ i = 64 + kn) → hq_gi sm2 k i = hq_gi sm k i := fun k i n1 n2 n3 => by rw [← esm, nn_n n1, nn_n n2, nn_n n3]
  have y1 : hq_gi sm2 192 (64 + kn) = 2 := by rw [← esm, nn_n (by omega), nn_n (by omega), nn_g1]
  have y2 : hq_gi sm2 193 (64 + kn) = y := by rw [← esm, nn_n (by omega), nn_g1]
  have ev : ∀ j, j < kn → hq_gi sm2 192 (64 + j) = hq_gi sm 192 (64 + j) ∧ hq_gi sm2 193 (64 + j) = hq_gi sm 193 (64 + j) := fun j hj => ⟨M _ _ (by omega) (by omega) (by omega), M _ _ (by omega) (by omega) (by omega)⟩
  refine EX_mk h (fun _ _ _ _ _ _ => rfl) rfl (fun k i n1 n2 n3 => M k i n2 (by omega) (by omega)) (by rw [← esm]; rfl) (by rw [s1, List.length_append, List.length_cons]; congr 1; simp; omega) (by rw [List.append_assoc]; exact s2) o1 (by omega) (ge_app o3 (ge_one hlx)) o4 ((M _ _ (by omega) (by omega) (by omega)).trans o5) u1 u2 c1 c2 ((M _ _ (by omega) (by omega) (by omega)).trans c3) (Nat.le_refl _) (by rw [List.length_append, m2]; simp; omega) (by omega) m4 (by rw [← esm, nn_g1]) (fun j j1 j2 => by omega) (vir_app Q pc (vir_k Q pc kn (by omega) ev m7) (by rw [← m2, y1, y2]; exact hk)) (dpt_e (by omega) (dpt_k w ev) (by rw [y1, y2]; exact hd))
theorem gf (hN : 1000 < N) : ∀ (k c : Nat), c ≤ 5 → 6 ≤ k + c → ∀ s : hq_S, ¬ hq_gi s 174 28 = 0 → f_X12_expression_G N k c s = some s := by
  obtain ⟨M, rfl⟩ : ∃ m, N = m + 1 := ⟨N - 1, by omega⟩
  intro k
  induction k with
  | zero => intro c h1 h2; omega
  | succ k ih =>
    intro c h1 h2 s f
    match c, h1 with
    | 0, _ =>
      rw [G_0]
      unfold f_X12_expression_S
      rw [ih 1 (by omega) (by omega) s f]
      simp only [ob]
      rw [f_X12_expression_L4_s]
      unfold f_X12_expression_L4_B
      rw [twf f]
      simp only [ob]
      rw [if_pos trivial]
    | 1, _ =>
      rw [G_1]
      unfold f_X12_conjunction_S
      rw [ih 2 (by omega) (by omega) s f]
      simp only [ob]
      rw [f_X12_conjunction_L4_s]
      unfold f_X12_conjunction_L4_B
      rw [twf f]
      simp only [ob]
      rw [if_pos trivial]
    | 2, _ =>
      rw [G_2]
      unfold f_X12_negation_S
      rw [twf f]
      simp only [ob]
      rw [if_pos trivial, ih 3 (by omega) (by omega) s f]
      simp only [ob]
      rw [if_neg f]
    | 3, _ =>
      rw [G_3]
      unfold f_X12_sum_S
      rw [ih 4 (by omega) (by omega) s f]
      simp only [ob]
      rw [f_X12_sum_L4_s]
      unfold f_X12_sum_L4_B
      rw [tsf f]
      simp only [ob]
      rw [if_pos trivial, tsf f]
      simp only [ob]
      rw [if_pos trivial]
    | 4, _ =>
      rw [G_4]
      unfold f_X12_product_S
      rw [ih 5 (by omega) (by omega) s f]
      simp only [ob]
      rw [f_X12_product_L4_s]
      unfold f_X12_product_L4_B
      rw [tsf f]
      simp only [ob]
      rw [if_pos trivial, tsf f]
      simp only [ob]
      rw [if_pos trivial]
    | 5, _ =>
      rw [G_5]
      unfold f_X12_primary_S
      rw [if_neg f]
/-- a primary -/
theorem pr_all (hN : 1000 < N) {k : Nat} {R0 R1 R2 R3 R4 R5 : hq_S → Option hq_S} (H0 : HR N t L v k0 sx0 sm0 R0 0 k) (h : EX t L v k0 sx0 sm0 P [] p pl q a b 1 nf op kt kn kn d sx sm) (hnf : nfc 5 nf q a) (fu : 6 * (8 - op) + (64 - kt) + 12 ≤ (k + 1) + 5) : OUT N t L v k0 sx0 sm0 (f_X12_primary_S N R0 R1 R2 R3 R4 R5 sm) 5 P op kt d pl sx := by
  have hnf' : nf = 0 ∨ (nf = 1 ∧ ¬ (q = 3 ∧ a = 21)) := hnf.elim (fun w => absurd w.1 (by omega)) (fun w => w.2)
  by_cases hq : q = 5 ∧ a = 40
  · have f0 := EX_f h
    have hlen := EX_len h
    have hpl := EX_pl h
    obtain ⟨R, ⟨hv, gv⟩, ⟨s1, s2⟩, ⟨o1, o2, o3, o4, o5⟩, ⟨u1, u2⟩, ⟨c1, c2, c3⟩, ⟨m1, m2, m3, m4, m5⟩, ⟨m6, m7⟩, w, kx, km, z⟩ := id h
    simp only [List.length_nil, Nat.zero_add] at s1 hlen
    have pr : f_X12_primary_S N R0 R1 R2 R3 R4 R5 sm = if op = 8 then some (hq_si (hq_si sm 174 28 2) 174 29 (hq_gi sm 174 25)) else (f_X12_token N (hq_si sm 174 32 (Int32.ofNat (op + 1)))).bind fun s32 => (R0 s32).bind fun s33 => (if (hq_gi s33 174 28) = 0 then (f_X12_isSign N (41 : Int32) s33).bind fun y36 => if y36.1 = 0 then (f_X12_wrong N (1 : Int32) y36.2).bind fun s38 => some s38 else some y36.2 else some s33).bind fun z34 => if (hq_gi z34 174 28) = 0 then (hq_pi z34 174 32 0 ((hq_gi z34 174 32) - (1 : Int32))).bind fun s40 => (f_X12_token N s40).bind fun s41 => some s41 else some z34 := by
      unfold f_X12_primary_S
      rw [if_pos f0, show (40 : Int32) = Int32.ofNat 40 from rfl, tsm R f0 (by omega), if_pos hq]
      simp only [ob]
      rw [if_neg (by decide), o5, ie (show (Int32.ofNat op = 8) = (op = 8) from nb_eq (b := 8) (by omega) (by omega))]
      by_cases c : op = 8
      · rw [if_pos c, if_pos c, fail_m f0]
        simp only [ob]
        rw [if_neg (fail_n (f := 2) (by decide))]
      · rw [if_neg c, if_neg c]
        simp only [ob]
        rw [if_pos f0, o5, nn_pi, nn_succ]
        rfl
    have sd : stp N sx = if op = 8 then some (0, hq_si (hq_si sx 48 7 2) 48 8 (hq_gi sx 49 6)) else (f_X9_advance N (hq_si (hq_si (hq_si (hq_si sx 48 4 (Int32.ofNat (op + 1))) 48 6 1) 75 P.length 40) 48 3 (Int32.ofNat (P.length + 1)))).bind fun s27 => some (1, s27) := by
      rw [stp_s h]
      unfold f_X6_readSide
      rw [show (40 : Int32) = Int32.ofNat 40 from rfl, tsx R (by omega), if_pos hq]
      simp only [ob]
      rw [if_neg (by decide), o4, ie (show (Int32.ofNat op < 8) = (op < 8) from nb_ltp (b := 8) (by omega) (by omega))]
      by_cases c : op = 8
      · rw [if_neg (by omega), if_pos c, fail_x]
        simp only [ob]
        rw [if_pos (show mm_rfit (mm_ret mc_X6_readSide) 0 = true from rfl)]
      · rw [if_pos (by omega), if_neg c, nn_pi, nn_succ]
        simp only [ob]
        rw [nn_pi1]
        simp only [ob]
        rw [hang_v (n := P.length) (by rw [nn_n (by omega), nn_n (by omega)]; exact s1) (by omega)]
        rfl
    unfold OUT
    rw [pr]
    by_cases c : op = 8
    · rw [if_pos c] at sd ⊢
      exact ⟨_, rfl, Or.inr ⟨0, sx, _, rfl, sd, bad_mk R (s := sx) rfl (f := 2) (by omega) (by omega), by omega⟩⟩
    · rw [if_neg c] at sd ⊢
      generalize esx : hq_si (hq_si (hq_si (hq_si sx 48 4 (Int32.ofNat (op + 1))) 48 6 1) 75 P.length 40) 48 3 (Int32.ofNat (P.length + 1)) = sx1 at sd
      have X : ∀ k i, ¬ (k = 48 ∧ i = 3) → ¬ (k = 75 ∧ i = P.length) → ¬ (k = 48 ∧ i = 6) → ¬ (k = 48 ∧ i = 4) → hq_gi sx1 k i = hq_gi sx k i := fun k i n1 n2 n3 n4 => by rw [← esx, nn_n n1, nn_n n2, nn_n n3, nn_n n4]
      have h1 : EX t L v k0 sx0 sm0 (40 :: P) [] p pl q a b 1 1 (op + 1) kt kn kn d sx1 (hq_si sm 174 32 (Int32.ofNat (op + 1))) := by
        refine EX_mk h (fun k i n1 n2 n3 n4 => X k i (by omega) (by omega) (by omega) (by omega)) (by rw [← esx]; rfl) (fun k i n1 n2 n3 => nn_n (by omega)) rfl (by rw [← esx, nn_g1]; simp) ⟨⟨?_, by omega⟩, stk_k P _ (Nat.le_refl _) (fun i hi => X _ _ (by omega) (by omega) (by omega) (by omega)) s2⟩ (by omega) ?_ ge_nil (by rw [← esx, nn_n (by omega), nn_n (by omega), nn_n (by omega), nn_g1]) nn_g1 ((X _ _ (by omega) (by omega) (by omega) (by omega)).trans u1) (by rw [← esx, nn_n (by omega), nn_n (by omega), nn_g1]; rfl) c1 ((X _ _ (by omega) (by omega) (by omega) (by omega)).trans c2) ((nn_n (by omega)).trans c3) (Nat.le_refl _) (by simp) ?_ ((X _ _ (by omega) (by omega) (by omega) (by omega)).trans m4) ((nn_n (by omega)).trans m5) (fun j j1 j2 => by omega) trivial (dpt_k w (fun j _ => ⟨nn_n (by omega), nn_n (by omega)⟩))
        · rw [← esx, nn_n (by omega)]; exact nn_g1
        · show (if 40 = 40 then 1 else 0) + br P = op + 1
          rw [if_pos rfl]; omega
        · show kn + ((if 40 = 40 then 0 else 1) + sg P) = kt
          rw [if_pos rfl]; omega
      obtain ⟨p2, pl2, q2, a2, b2, sx2, sm2, r1, r2, h2, r4⟩ := EX_adv hN h1
      have hpl2 := EX_pl h2
      have p1 := hpl.2.2.1 (by omega)
      rw [r1] at sd
      rw [r2]
      simp only [ob] at sd ⊢
      obtain ⟨sm3, g1, g2⟩ := H0 (40 :: P) p2 pl2 q2 a2 b2 1 (op + 1) kt kn d sx2 sm2 h2 (show lv 40 < 1 by decide) (Or.inl ⟨by omega, rfl⟩) (by omega)
      rw [g1]
      simp only [ob]
      rcases g2 with ⟨j, sx3, Q, p3, pl3, q3, a3, b3, nf3, kt3, pc3, kn3, e1, e2, e3, h3, e5, e6⟩ | ⟨j, sx3, sx4, e1, e2, e3, e4⟩
      · have f3 := EX_f h3
        have hpl3 := EX_pl h3
        rw [if_pos f3, show (41 : Int32) = Int32.ofNat 41 from rfl, tsm h3.1 f3 (by omega)]
        simp only [ob]
        by_cases cl : q3 = 5 ∧ a3 = 41
        · obtain ⟨p4, pl4, q4, a4, b4, sx4, sm4, k1, k2, h4, k4, k5⟩ := rj_close hN h3 cl.1 cl.2
          rw [if_pos cl, if_neg (by decide)]
          simp only [ob]
          rw [if_pos f3, h3.2.2.2.1.2.2.2.2, show Int32.ofNat (op + 1) - (1 : Int32) = Int32.ofNat (op + 1 - 1) from nb_sub (a := op + 1) (b := 1) (by omega), nn_pi]
          simp only [ob]
          rw [k2]
          rw [show op + 1 - 1 = op by omega] at h4
          refine ⟨sm4, rfl, Or.inl ⟨1 + j + 1, sx4, [], p4, pl4, q4, a4, b4, nf3, kt3, kn3, kn3, rch_tr _ _ _ _ _ (rch_tr _ _ _ _ _ (rch_1 sd) e1) (rch_1 ((stp_j h3).trans k1)), ?_, e3, h4, ge_nil, ?_⟩⟩
          · have := hpl3.2.2.1 (by omega)
            omega
          · exact ⟨fun c => absurd c (by omega), fun c => absurd c (by omega), fun c => absurd c (by omega), fun c => absurd c (by omega), fun c => absurd c (by omega)⟩
        · have fn : ¬ hq_gi (hq_si (hq_si sm3 174 28 1) 174 29 (hq_gi sm3 174 25)) 174 28 = 0 := fail_n (by decide)
          rw [if_neg cl, if_pos rfl, fail_m f3]
          simp only [ob]
          rw [if_neg fn]
          have fs : ∃ sx4, f_X6_readJoint N sx3 = some (0, sx4) ∧ bad sx4 (hq_si (hq_si sm3 174 28 1) 174 29 (hq_gi sm3 174 25)) := by
            obtain ⟨t6, t5, t4, t2, t1⟩ := e6
            by_cases l4 : tl q3 a3 = 4
            · exact rj_ct hN h3 l4 (t4 (by omega) l4)
            · have l7 := tl_lt q3 a3
              have := t6 (by omega)
              have := t5 (by omega)
              have := t2 (by omega)
              have := t1 rfl
              rcases rj_end hN h3 (by omega) (Or.inl cl) (show lv 40 < 1 by decide) with ⟨-, w⟩ | ⟨w, -⟩
              · exact w
              · omega
          obtain ⟨sx4, k1, k2⟩ := fs
          exact ⟨_, rfl, Or.inr ⟨1 + j, sx3, sx4, rch_tr _ _ _ _ _ (rch_1 sd) e1, (stp_j h3).trans k1, k2, by omega⟩⟩
      · rw [if_neg (bad_n e3)]
        simp only [ob]
        rw [if_neg (bad_n e3)]
        exact ⟨_, rfl, Or.inr ⟨1 + j, sx3, sx4, rch_tr _ _ _ _ _ (rch_1 sd) e1, e2, e3, by omega⟩⟩
  · exact ps_tok hN h hq hnf' R0 R1 R2 R3 R4 R5
end
