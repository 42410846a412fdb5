/-! THE READER: a law's loops, all levels -/
section
variable {N L v k0 : Nat} {t : Nat → Nat} {sx0 sm0 : hq_S}
theorem OUT_tr {X Y : Option hq_S} {c op kt d pl j0 pl1 kt1 : Nat} {P : List Nat} {sx sx1 : hq_S} (r : rch N j0 sx sx1) (h1 : pl + j0 ≤ pl1) (h2 : kt ≤ kt1) (e : X = Y) (h : OUT N t L v k0 sx0 sm0 Y c P op kt1 d pl1 sx1) : OUT N t L v k0 sx0 sm0 X c P op kt d pl sx := by
  obtain ⟨sm', e1, g⟩ := h
  refine ⟨sm', e.trans e1, ?_⟩
  rcases g with ⟨j, sx', Q, p', pl', q', a', b', nf', kt', pc', kn', g1, g2, g3, g4, g5, g6⟩ | ⟨j, sx2, sx', g1, g2, g3, g4⟩
  · exact Or.inl ⟨j0 + j, sx', Q, p', pl', q', a', b', nf', kt', pc', kn', rch_tr _ _ _ _ _ r g1, by omega, by omega, g4, g5, g6⟩
  · exact Or.inr ⟨j0 + j, sx2, sx', rch_tr _ _ _ _ _ r g1, g2, g3, by omega⟩
/-- one operator and its right side -/
theorem lp_one (hN : 1000 < N) {c l k : Nat} (hl : 1 ≤ l) (hl3 : ¬ l = 3) (hlp : l < lp c) (hnf : (c ≤ 2 ∧ l ≤ 2) ∨ (3 ≤ c ∧ ¬ l ≤ 2)) {R : hq_S → Option hq_S} (Rf : ∀ s, ¬ hq_gi s 174 28 = 0 → R s = some s) (RO : HR N t L v k0 sx0 sm0 R c k)
    {P Q : List Nat} {p pl q a b nf op kt pc kn d : Nat} {sx sxj sm : hq_S} (h : EX t L v k0 sx0 sm0 P Q p pl q a b 0 nf op kt pc kn (d + 1) sxj sm) (hst : stp N sx = f_X6_readJoint_J167 N (lvI l) sxj) (htl : tl q a = l) (hQ : ge l Q) (hP : top l P) (fu : 6 * (8 - op) + (64 - kt) + 12 ≤ k + c) :
    (∃ s4 s5 s6 s7, f_X12_knot N sm = some s4 ∧ f_X12_goOn N s4 = some s5 ∧ R s5 = some s6 ∧ f_X12_puts N 2 (Int32.ofNat (rcd a)) s6 = some s7 ∧ ∃ j sx' Q' p' pl' q' a' b' nf' kt' pc' kn', rch N j sx sx' ∧ pl + j ≤ pl' ∧ pl < pl' ∧ kt ≤ kt' ∧ EX t L v k0 sx0 sm0 P (Q' ++ [a]) p' pl' q' a' b' 0 nf' op kt' pc' kn' (d + 1) sx' s7 ∧ ge (lc c) Q' ∧ rcn c (Q' ++ a :: P) q' a') ∨ ∃ s4 s5 s6, f_X12_knot N sm = some s4 ∧ f_X12_goOn N s4 = some s5 ∧ R s5 = some s6 ∧ f_X12_puts N 2 (Int32.ofNat (rcd a)) s6 = some s6 ∧ ¬ hq_gi s6 174 28 = 0 ∧ ∃ j sx1 sx', rch N j sx sx1 ∧ stp N sx1 = some (0, sx') ∧ bad sx' s6 ∧ pl + j ≤ L := by
  have hpl := EX_pl h
  obtain ⟨tq, ta, t40, tlv, tkn, tne⟩ := tl_op h.1.2.2.2.2.2.2.1 (by omega)
  rcases jop hN h htl hl hl3 hQ hP with ⟨p', pl', q', a', b', nf', s4, sx', sm', e1, e2, e3, h1, e4, e5, e6⟩ | ⟨sx', sm', e1, e2, e3⟩
  · have hpl1 := EX_pl h1
    have hp := hpl.2.2.1 (by omega)
    have st : stp N sx = some (1, sx') := hst.trans e1
    obtain ⟨s6, g1, g2⟩ := RO (a :: P) p' pl' q' a' b' nf' op (kt + 1) kn (d + 1) sx' sm' h1 (show lv a < lp c by omega) (hnf.elim (fun w => Or.inl ⟨w.1, e5 w.2⟩) (fun w => Or.inr ⟨w.1, Or.inl (e6 w.2)⟩)) (by omega)
    rcases g2 with ⟨j, sx2, Q', p2, pl2, q2, a2, b2, nf2, kt2, pc2, kn2, k1, k2, k3, h2, k5, k6⟩ | ⟨j, sx2, sx3, k1, k2, k3, k4⟩
    · obtain ⟨s7, w1, w2⟩ := EX_puts (N := N) (d' := d + 1) h2 t40 (by omega) tkn (Or.inr (Or.inr ⟨rfl, tne (by omega), by omega, by omega⟩))
      exact Or.inl ⟨s4, sm', s6, s7, e2, e3, g1, w1, 1 + j, sx2, Q', p2, pl2, q2, a2, b2, nf2, kt2, pc2, kn2 + 1, rch_tr _ _ _ _ _ (rch_1 st) k1, by omega, by omega, by omega, w2, k5, k6⟩
    · exact Or.inr ⟨s4, sm', s6, e2, e3, g1, puts_f (bad_n k3), bad_n k3, 1 + j, sx2, sx3, rch_tr _ _ _ _ _ (rch_1 st) k1, k2, k3, by omega⟩
  · exact Or.inr ⟨sm', sm', sm', e2, goOn_f (bad_n e3), Rf sm' (bad_n e3), puts_f (bad_n e3), bad_n e3, 0, sx, sx', rfl, hst.trans e1, e3, by omega⟩
theorem lp_gen (hN : 1000 < N) {c l k : Nat} (hc : (c = 0 ∧ l = 1) ∨ (c = 1 ∧ l = 2) ∨ (c = 3 ∧ l = 5) ∨ (c = 4 ∧ l = 6)) {R : hq_S → Option hq_S} {Lp : Nat → hq_S → Option hq_S} (Rf : ∀ s, ¬ hq_gi s 174 28 = 0 → R s = some s) (RO : HR N t L v k0 sx0 sm0 R (c + 1) k)
    (L0 : ∀ m s, ¬ hq_gi s 174 28 = 0 → Lp (m + 1) s = some s)
    (L1 : ∀ m p pl q a b sx sm, tk_R t L p pl q a b sx sm → hq_gi sm 174 28 = 0 → ¬ tl q a = l → Lp (m + 1) sm = some sm)
    (L2 : ∀ m p pl q a b sx sm, tk_R t L p pl q a b sx sm → hq_gi sm 174 28 = 0 → tl q a = l → Lp (m + 1) sm = (f_X12_knot N sm).bind fun s4 => (f_X12_goOn N s4).bind fun s5 => (R s5).bind fun s6 => (f_X12_puts N 2 (Int32.ofNat (rcd a)) s6).bind fun s7 => Lp m s7) :
    ∀ (r m : Nat) (P Q : List Nat) (p pl q a b nf op kt pc kn d : Nat) (sx sm : hq_S), L ≤ pl + r → r + 1 < m → EX t L v k0 sx0 sm0 P Q p pl q a b 0 nf op kt pc kn (d + 1) sx sm → ge l Q → top l P → rcn (c + 1) (Q ++ P) q a → 6 * (8 - op) + (64 - kt) + 12 ≤ k + (c + 1) → OUT N t L v k0 sx0 sm0 (Lp m sm) c P op kt d pl sx := by
  have lc1 : lc c = l ∧ l < lp (c + 1) ∧ l ≤ lc (c + 1) ∧ ¬ l = 0 ∧ ¬ l = 3 ∧ ¬ l = 4 ∧ ((c + 1 ≤ 2 ∧ l ≤ 2) ∨ (3 ≤ c + 1 ∧ ¬ l ≤ 2)) := by
    rcases hc with ⟨rfl, rfl⟩ | ⟨rfl, rfl⟩ | ⟨rfl, rfl⟩ | ⟨rfl, rfl⟩ <;> decide
  obtain ⟨lca, lcb, lcc, l0, l3, l4, lcn⟩ := lc1
  intro r
  induction r with
  | zero =>
    intro m P Q p pl q a b nf op kt pc kn d sx sm hr hm h hQ hP hn fu
    obtain ⟨m, rfl⟩ : ∃ k, m = k + 1 := ⟨m - 1, by omega⟩
    have hpl := EX_pl h
    have hq0 : q = 0 := by
      by_cases c : q = 0
      · exact c
      · have := hpl.2.2.1 c
        omega
    have tl0 : tl q a = 0 := by unfold tl; rw [if_neg (by omega)]
    refine ⟨sm, L1 m p pl q a b sx sm h.1 (EX_f h) (by omega), Or.inl ⟨0, sx, Q, p, pl, q, a, b, nf, kt, pc, kn, rfl, by omega, by omega, h, by rw [lca]; exact hQ, ?_⟩⟩
    exact ⟨fun _ => by omega, fun _ => by omega, fun _ e => by omega, fun _ => by omega, fun _ => by omega⟩
  | succ r ih =>
    intro m P Q p pl q a b nf op kt pc kn d sx sm hr hm h hQ hP hn fu
    obtain ⟨m, rfl⟩ : ∃ k, m = k + 1 := ⟨m - 1, by omega⟩
    by_cases htl : tl q a = l
    · have hst : stp N sx = f_X6_readJoint_J167 N (lvI l) sx := (stp_j h).trans (rj_op h htl l0 l3 l4)
      have hal : ¬ a = 40 ∧ lv a = l := by
        obtain ⟨tq, ta, t40, tlv, -⟩ := tl_op h.1.2.2.2.2.2.2.1 (by omega)
        exact ⟨t40, by omega⟩
      rcases lp_one hN (by omega) l3 lcb lcn Rf RO h hst htl hQ hP fu with ⟨s4, s5, s6, s7, e1, e2, e3, e4, j, sx', Q', p', pl', q', a', b', nf', kt', pc', kn', g1, g2, g3, g4, g5, g6, g7⟩ | ⟨s4, s5, s6, e1, e2, e3, e4, e5, j, sx1, sx', g1, g2, g3, g4⟩
      · have lpe : Lp (m + 1) sm = Lp m s7 := by
          rw [L2 m p pl q a b sx sm h.1 (EX_f h) htl, e1]
          simp only [ob]
          rw [e2]
          simp only [ob]
          rw [e3]
          simp only [ob]
          rw [e4]
          rfl
        have hO := ih m P (Q' ++ [a]) p' pl' q' a' b' nf' op kt' pc' kn' d sx' s7 (by omega) (by omega) g5 (ge_app (ge_mono g6 lcc) (ge_one (by omega))) hP (by rw [List.append_assoc]; exact g7) (by omega)
        exact OUT_tr g1 g2 g4 lpe hO
      · obtain ⟨m, rfl⟩ : ∃ k, m = k + 1 := ⟨m - 1, by omega⟩
        refine ⟨s6, ?_, Or.inr ⟨j, sx1, sx', g1, g2, g3, g4⟩⟩
        rw [L2 (m + 1) p pl q a b sx sm h.1 (EX_f h) htl, e1]
        simp only [ob]
        rw [e2]
        simp only [ob]
        rw [e3]
        simp only [ob]
        rw [e4]
        simp only [ob]
        exact L0 m s6 e5
    · refine ⟨sm, L1 m p pl q a b sx sm h.1 (EX_f h) htl, Or.inl ⟨0, sx, Q, p, pl, q, a, b, nf, kt, pc, kn, rfl, by omega, by omega, h, by rw [lca]; exact hQ, ?_⟩⟩
      obtain ⟨t6, t5, t4, t2, t1⟩ := hn
      refine ⟨fun w => ?_, fun w => ?_, fun w => t4 (by omega), fun w => ?_, fun w => ?_⟩
      · by_cases c4 : c = 4
        · omega
        · exact t6 (by omega)
      · by_cases c3 : c = 3
        · omega
        · exact t5 (by omega)
      · by_cases c1 : c = 1
        · omega
        · exact t2 (by omega)
      · omega
/-- a level with a loop -/
theorem lv_gen (hN : 1000 < N) {c l k : Nat} (hc : (c = 0 ∧ l = 1) ∨ (c = 1 ∧ l = 2) ∨ (c = 3 ∧ l = 5) ∨ (c = 4 ∧ l = 6)) {R : hq_S → Option hq_S} {Lp : Nat → hq_S → Option hq_S} (Rf : ∀ s, ¬ hq_gi s 174 28 = 0 → R s = some s) (RO : HR N t L v k0 sx0 sm0 R (c + 1) k)
    (L0 : ∀ m s, ¬ hq_gi s 174 28 = 0 → Lp (m + 1) s = some s)
    (L1 : ∀ m p pl q a b sx sm, tk_R t L p pl q a b sx sm → hq_gi sm 174 28 = 0 → ¬ tl q a = l → Lp (m + 1) sm = some sm)
    (L2 : ∀ m p pl q a b sx sm, tk_R t L p pl q a b sx sm → hq_gi sm 174 28 = 0 → tl q a = l → Lp (m + 1) sm = (f_X12_knot N sm).bind fun s4 => (f_X12_goOn N s4).bind fun s5 => (R s5).bind fun s6 => (f_X12_puts N 2 (Int32.ofNat (rcd a)) s6).bind fun s7 => Lp m s7) :
    HR N t L v k0 sx0 sm0 (fun s => (R s).bind fun s1 => Lp N s1) c (k + 1) := by
  have lc1 : lp c ≤ lp (c + 1) ∧ l ≤ lc (c + 1) ∧ lp c = l := by
    rcases hc with ⟨rfl, rfl⟩ | ⟨rfl, rfl⟩ | ⟨rfl, rfl⟩ | ⟨rfl, rfl⟩ <;> decide
  intro P p pl q a b nf op kt kn d sx sm h hP hnf fu
  have hnf' : nfc (c + 1) nf q a := by
    rcases hnf with ⟨w1, w2⟩ | ⟨w1, w2⟩
    · exact Or.inl ⟨by omega, w2⟩
    · exact Or.inr ⟨by omega, w2⟩
  obtain ⟨s1, e1, g⟩ := RO P p pl q a b nf op kt kn d sx sm h (top_mono hP lc1.1) hnf' (by omega)
  have hpl := EX_pl h
  rcases g with ⟨j, sx', Q, p', pl', q', a', b', nf', kt', pc', kn', g1, g2, g3, g4, g5, g6⟩ | ⟨j, sx1, sx', g1, g2, g3, g4⟩
  · have hpl' := EX_pl g4
    have hO := lp_gen hN hc Rf RO L0 L1 L2 700 N P Q p' pl' q' a' b' nf' op kt' pc' kn' d sx' s1 (by omega) (by omega) g4 (ge_mono g5 lc1.2.1) (lc1.2.2 ▸ hP) g6 (by omega)
    exact OUT_tr g1 g2 g3 (by show (R sm).bind _ = _; rw [e1]; rfl) hO
  · obtain ⟨M, rfl⟩ : ∃ m, N = m + 1 := ⟨N - 1, by omega⟩
    refine ⟨s1, ?_, Or.inr ⟨j, sx1, sx', g1, g2, g3, g4⟩⟩
    show (R sm).bind _ = _
    rw [e1]
    exact L0 M s1 (bad_n g3)
end
