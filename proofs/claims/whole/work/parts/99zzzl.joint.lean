/-! THE READER: behind a side -/
def tl (q a : Nat) : Nat := if q = 3 ∨ q = 5 then lv a else 0
def rcd (a : Nat) : Nat := if a = 19 then 261 else if a = 20 then 262 else if a = 21 then 260 else a
theorem sgm_lt {n : Nat} (h : sgm n = true) : n < 63 := by
  simp [sgm, Nat.beq_eq] at h
  omega
theorem lv_w : ∀ a, a < 22 → 1 ≤ lv a → a = 19 ∨ a = 20 ∨ a = 21 := by decide
theorem lv_s : ∀ a, a < 63 → sgm a = true → 1 ≤ lv a → a = 42 ∨ a = 47 ∨ a = 43 ∨ a = 45 ∨ a = 60 ∨ a = 61 ∨ a = 62 := by decide
theorem tl_lt (q a : Nat) : tl q a < 7 := by
  unfold tl
  split
  · exact lv_7 a
  · omega
theorem tl_cases {q a b : Nat} (h : tk_v q a b) (g : 1 ≤ tl q a) : (q = 3 ∧ ((a = 19 ∧ b = 13 ∧ tl q a = 2) ∨ (a = 20 ∧ b = 12 ∧ tl q a = 1) ∨ (a = 21 ∧ b = 14 ∧ tl q a = 3))) ∨ (q = 5 ∧ a = b ∧ (((a = 42 ∨ a = 47) ∧ tl q a = 6) ∨ ((a = 43 ∨ a = 45) ∧ tl q a = 5) ∨ ((a = 60 ∨ a = 61 ∨ a = 62 ∨ a = 256 ∨ a = 257 ∨ a = 258) ∧ tl q a = 4))) := by
  obtain ⟨-, -, h3, -, h5⟩ := h
  by_cases q3 : q = 3
  · subst q3
    obtain ⟨e1, e2⟩ := h3 rfl
    refine Or.inl ⟨rfl, ?_⟩
    rcases lv_w a e1 g with rfl | rfl | rfl
    · exact Or.inl ⟨rfl, e2, rfl⟩
    · exact Or.inr (Or.inl ⟨rfl, e2, rfl⟩)
    · exact Or.inr (Or.inr ⟨rfl, e2, rfl⟩)
  · by_cases q5 : q = 5
    · subst q5
      obtain ⟨e1, e2⟩ := h5 rfl
      refine Or.inr ⟨rfl, e1, ?_⟩
      rcases e2 with e2 | rfl | rfl | rfl
      · rcases lv_s a (sgm_lt e2) e2 g with rfl | rfl | rfl | rfl | rfl | rfl | rfl
        · exact Or.inl ⟨Or.inl rfl, rfl⟩
        · exact Or.inl ⟨Or.inr rfl, rfl⟩
        · exact Or.inr (Or.inl ⟨Or.inl rfl, rfl⟩)
        · exact Or.inr (Or.inl ⟨Or.inr rfl, rfl⟩)
        · exact Or.inr (Or.inr ⟨by omega, rfl⟩)
        · exact Or.inr (Or.inr ⟨by omega, rfl⟩)
        · exact Or.inr (Or.inr ⟨by omega, rfl⟩)
      · exact Or.inr (Or.inr ⟨by omega, rfl⟩)
      · exact Or.inr (Or.inr ⟨by omega, rfl⟩)
      · exact Or.inr (Or.inr ⟨by omega, rfl⟩)
    · unfold tl at g
      rw [if_neg (by omega)] at g
      exact absurd g (by omega)
theorem tl_a {q a b : Nat} (h : tk_v q a b) (g : q = 3 ∨ q = 5) : a < 1000 := by
  obtain ⟨-, -, h3, -, h5⟩ := h
  rcases g with g | g
  · have := (h3 g).1; omega
  · rcases (h5 g).2 with e | e | e | e
    · have := sgm_lt e; omega
    · omega
    · omega
    · omega
theorem tl_op {q a b : Nat} (h : tk_v q a b) (g : 1 ≤ tl q a) : (q = 3 ∨ q = 5) ∧ a < 1000 ∧ ¬ a = 40 ∧ lv a = tl q a ∧ hr_knot (Int32.ofNat (20000 + a)) 2 (Int32.ofNat (rcd a)) ∧ (¬ tl q a = 3 → ¬ Int32.ofNat (rcd a) = 260) := by
  rcases tl_cases h g with ⟨rfl, ⟨rfl, -, e⟩ | ⟨rfl, -, e⟩ | ⟨rfl, -, e⟩⟩ | ⟨rfl, -, ⟨c, e⟩ | ⟨c, e⟩ | ⟨c, e⟩⟩
  · exact ⟨Or.inl rfl, by omega, by omega, rfl, Or.inr (Or.inr ⟨rfl, Or.inr (Or.inl ⟨rfl, rfl⟩)⟩), fun _ => by decide⟩
  · exact ⟨Or.inl rfl, by omega, by omega, rfl, Or.inr (Or.inr ⟨rfl, Or.inr (Or.inr (Or.inl ⟨rfl, rfl⟩))⟩), fun _ => by decide⟩
  · exact ⟨Or.inl rfl, by omega, by omega, rfl, Or.inr (Or.inr ⟨rfl, Or.inl ⟨rfl, rfl⟩⟩), fun n => absurd e n⟩
  · refine ⟨Or.inr rfl, by omega, by omega, rfl, Or.inr (Or.inr ⟨rfl, Or.inr (Or.inr (Or.inr ⟨a, by omega, ?_, rfl⟩))⟩), fun _ => ?_⟩
    · rcases c with rfl | rfl <;> rfl
    · rcases c with rfl | rfl <;> decide
  · refine ⟨Or.inr rfl, by omega, by omega, rfl, Or.inr (Or.inr ⟨rfl, Or.inr (Or.inr (Or.inr ⟨a, by omega, ?_, rfl⟩))⟩), fun _ => ?_⟩
    · rcases c with rfl | rfl <;> rfl
    · rcases c with rfl | rfl <;> decide
  · refine ⟨Or.inr rfl, by omega, by omega, rfl, Or.inr (Or.inr ⟨rfl, Or.inr (Or.inr (Or.inr ⟨a, by omega, ?_, rfl⟩))⟩), fun _ => ?_⟩
    · rcases c with rfl | rfl | rfl | rfl | rfl | rfl <;> rfl
    · rcases c with rfl | rfl | rfl | rfl | rfl | rfl <;> decide
theorem nn_pi10 {s : hq_S} {k b : Nat} : hq_pi s k b 1 0 = some (hq_si s k b 0) := rfl
section
variable {N v : Nat} {s : hq_S}
theorem hang_v {n : Nat} {x : Int32} (e : hq_gi s 48 3 = Int32.ofNat n) (h : n < 72) : f_X6_hang N x s = some (hq_si (hq_si s 75 n x) 48 3 (Int32.ofNat (n + 1))) := by
  unfold f_X6_hang
  rw [e, ie (show (Int32.ofNat n < 72) = (n < 72) from nb_ltp (b := 72) (by omega) (by omega)), if_pos h, nn_st (by omega) (by omega)]
  simp only [ob]
  rw [nn_n (by omega), e, nn_pi, nn_succ]
  rfl
theorem hang_t {n : Nat} {x : Int32} (e : hq_gi s 48 3 = Int32.ofNat n) (h : n ≤ 72) : ∃ s', f_X6_hang N x s = some s' ∧ (∀ k i, ¬ k = 75 → ¬ (k = 48 ∧ i = 3) → hq_gi s' k i = hq_gi s k i) ∧ s'.2 = s.2 := by
  by_cases c : n < 72
  · exact ⟨_, hang_v e c, fun k i n1 n2 => by rw [nn_n n2, nn_n (by omega)], rfl⟩
  · refine ⟨s, ?_, fun _ _ _ _ => rfl, rfl⟩
    unfold f_X6_hang
    rw [e, ie (show (Int32.ofNat n < 72) = (n < 72) from nb_ltp (b := 72) (by omega) (by omega)), if_neg c]
theorem pk_v {kt : Nat} (hv : v = 2 ∨ v = 25) (gv : hq_gr s 48 1 = v) (e : hq_gi s (v + 9) 0 = Int32.ofNat kt) (h : kt < 64) : f_X6_passKnot N s = (f_X9_advance N (hq_si s (v + 9) 0 (Int32.ofNat (kt + 1)))).bind fun s4 => some (1, s4) := by
  have hT : hq_isT v := hv
  unfold f_X6_passKnot f_X4_tellKnot
  rw [gv, if_pos hT, e, ie (show (Int32.ofNat kt < 64) = (kt < 64) from nb_ltp (b := 64) (by omega) (by omega)), if_pos h, nn_pi, nn_succ]
  simp only [ob]
  rw [if_neg (by decide)]
theorem pk_f (hv : v = 2 ∨ v = 25) (gv : hq_gr s 48 1 = v) (e : hq_gi s (v + 9) 0 = Int32.ofNat 64) : f_X6_passKnot N s = some (0, hq_si (hq_si s 48 7 2) 48 8 (hq_gi s 49 6)) := by
  have hT : hq_isT v := hv
  unfold f_X6_passKnot f_X4_tellKnot
  rw [gv, if_pos hT, e, if_neg (by decide)]
  simp only [ob]
  rw [if_pos trivial, fail_x]
  simp only [ob]
  rw [if_pos (show mm_rfit (mm_ret mc_X6_passKnot) 0 = true from rfl)]
theorem knot_v {kt : Nat} (f : hq_gi s 174 28 = 0) (e : hq_gi s 174 33 = Int32.ofNat kt) (h : kt < 64) : f_X12_knot N s = some (hq_si s 174 33 (Int32.ofNat (kt + 1))) := by
  unfold f_X12_knot
  rw [if_pos f, e, ie (show (Int32.ofNat kt = 64) = (kt = 64) from nb_eq (b := 64) (by omega) (by omega)), if_neg (by omega), nn_pi, nn_succ]
  rfl
theorem knot_64 (f : hq_gi s 174 28 = 0) (e : hq_gi s 174 33 = Int32.ofNat 64) : f_X12_knot N s = some (hq_si (hq_si s 174 28 2) 174 29 (hq_gi s 174 25)) := by
  unfold f_X12_knot
  rw [if_pos f, e, if_pos (show Int32.ofNat 64 = 64 from rfl), fail_m f]
  rfl
theorem knot_f (f : ¬ hq_gi s 174 28 = 0) : f_X12_knot N s = some s := by
  unfold f_X12_knot
  rw [if_neg f]
theorem puts_f {x y : Int32} (f : ¬ hq_gi s 174 28 = 0) : f_X12_puts N x y s = some s := by
  unfold f_X12_puts
  rw [if_neg f]
theorem puts_v {kn : Nat} {x y : Int32} (f : hq_gi s 174 28 = 0) (e : hq_gi s 176 13 = Int32.ofNat kn) (h : kn < 64) : f_X12_puts N x y s = some (hq_si (hq_si (hq_si s 192 (64 + kn) x) 193 (64 + kn) y) 176 13 (Int32.ofNat (kn + 1))) := by
  unfold f_X12_puts
  rw [if_pos f, fresher_v (a := 6) (j := 6) rfl (by omega), show hq_gi s 176 (7 + 6) = Int32.ofNat kn from e]
  simp only [ob]
  rw [show (64 : Int32) + Int32.ofNat kn = Int32.ofNat (64 + kn) from nb_add 64 kn, nn_st (by omega) (by omega)]
  simp only [ob]
  rw [fresher_v (a := 6) (j := 6) rfl (by omega), nn_n (by omega), show hq_gi s 176 (7 + 6) = Int32.ofNat kn from e]
  simp only [ob]
  rw [show (64 : Int32) + Int32.ofNat kn = Int32.ofNat (64 + kn) from nb_add 64 kn, nn_st (by omega) (by omega)]
  simp only [ob]
  rw [fresher_v (a := 6) (j := 6) rfl (by omega), nn_n (by omega), nn_n (by omega), show hq_gi s 176 (7 + 6) = Int32.ofNat kn from e]
  simp only [ob]
  rw [reads_v (a := 6) (j := 6) rfl (by omega), nn_succ]
  rfl
end
section
variable {N L v k0 p pl q a b due nf op kt pc kn d : Nat} {t : Nat → Nat} {sx0 sm0 sx sm : hq_S} {P Q : List Nat}
theorem bad_mk {s : hq_S} (R : tk_R t L p pl q a b sx sm) (e : hq_gi s 49 6 = hq_gi sx 49 6) {f : Nat} (h1 : 1 ≤ f) (h2 : f ≤ 5) : bad (hq_si (hq_si s 48 7 (Int32.ofNat f)) 48 8 (hq_gi s 49 6)) (hq_si (hq_si sm 174 28 (Int32.ofNat f)) 174 29 (hq_gi sm 174 25)) := by
  refine ⟨f, h1, h2, ?_, ?_, ?_⟩
  · rw [nn_n (by omega), nn_g1]
  · rw [nn_n (by omega), nn_g1]
  · rw [nn_g1, nn_g1, e, R.2.2.2.2.1.1, R.2.2.2.2.1.2]
theorem jop (hN : 1000 < N) {l : Nat} (h : EX t L v k0 sx0 sm0 P Q p pl q a b due nf op kt pc kn d sx sm) (hl : tl q a = l) (hl1 : 1 ≤ l) (hl3 : ¬ l = 3) (hQ : ge l Q) (hP : top l P) :
    (∃ p' pl' q' a' b' nf' s4 sx' sm', f_X6_readJoint_J167 N (lvI l) sx = some (1, sx') ∧ f_X12_knot N sm = some s4 ∧ f_X12_goOn N s4 = some sm' ∧ EX t L v k0 sx0 sm0 (a :: P) [] p' pl' q' a' b' 1 nf' op (kt + 1) kn kn d sx' sm' ∧ p ≤ pl' ∧ (l ≤ 2 → nf' = 1) ∧ (¬ l ≤ 2 → nf' = 0)) ∨ ∃ sx' sm', f_X6_readJoint_J167 N (lvI l) sx = some (0, sx') ∧ f_X12_knot N sm = some sm' ∧ bad sx' sm' := by
  have hl7 : l < 7 := hl ▸ tl_lt q a
  obtain ⟨sx1, e1, h1⟩ := EX_settle hN hl1 hl7 h hQ hP
  have hlen := EX_len h1
  have f0 := EX_f h1
  obtain ⟨R, ⟨hv, gv⟩, ⟨s1, s2⟩, ⟨o1, o2, o3, o4, o5⟩, ⟨u1, u2⟩, ⟨c1, c2, c3⟩, ⟨m1, m2, m3, m4, m5⟩, ⟨m6, m7⟩, w, kx, km, z⟩ := id h1
  obtain ⟨tq, ta, t40, tlv, tkn, tne⟩ := tl_op R.2.2.2.2.2.2.1 (by omega)
  have va : hq_gi sx1 49 5 = Int32.ofNat a := (R.2.2.2.2.2.2.2 (by omega)).1
  simp only [List.length_nil, Nat.zero_add] at s1 hlen
  have z17 : (if lvI l = 0 then some (1 : Int32) else if lvI l = 1 then some 1 else some 0) = some (Int32.ofNat (if l ≤ 2 then 1 else 0)) := by
    have q1 : (lvI l = 0) = (l = 1) := lvI_eq l hl7 1 (by omega)
    have q2 : (lvI l = 1) = (l = 2) := lvI_eq l hl7 2 (by omega)
    rw [ie q1, ie q2]
    by_cases c1 : l = 1
    · rw [if_pos c1, if_pos (by omega)]; rfl
    · rw [if_neg c1]
      by_cases c2 : l = 2
      · rw [if_pos c2, if_pos (by omega)]; rfl
      · rw [if_neg c2, if_neg (by omega)]; rfl
  have pi6 : ∀ s : hq_S, hq_pi s 48 6 1 (Int32.ofNat (if l ≤ 2 then 1 else 0)) = some (hq_si s 48 6 (Int32.ofNat (if l ≤ 2 then 1 else 0))) := fun s => by
    by_cases c : l ≤ 2
    · rw [if_pos c]; rfl
    · rw [if_neg c]; rfl
  have unf : f_X6_readJoint_J167 N (lvI l) sx = (f_X6_hang N (Int32.ofNat a) sx1).bind fun s15 => (f_X6_passKnot N (hq_si (hq_si s15 48 5 1) 48 6 (Int32.ofNat (if l ≤ 2 then 1 else 0)))).bind fun y21 => if mm_rfit (mm_ret mc_X6_readJoint) y21.1 = true then some (y21.1, y21.2) else none := by
    unfold f_X6_readJoint_J167
    rw [e1]
    simp only [ob]
    rw [va]
    refine congrArg (Option.bind _) (funext fun s15 => ?_)
    rw [nn_pi1]
    simp only [ob]
    rw [z17]
    simp only [ob]
    rw [pi6]
    rfl
  rw [unf]
  by_cases hk : kt < 64
  · rw [hang_v s1 (by omega)]
    simp only [ob]
    rw [pk_v (s := hq_si (hq_si (hq_si (hq_si sx1 75 P.length (Int32.ofNat a)) 48 3 (Int32.ofNat (P.length + 1))) 48 5 1) 48 6 (Int32.ofNat (if l ≤ 2 then 1 else 0))) (kt := kt) hv (show hq_gr sx1 48 1 = v from gv) (by rw [nn_n (by omega), nn_n (by omega), nn_n (by omega), nn_n (by omega)]; exact c2) hk]
    generalize esx : hq_si (hq_si (hq_si (hq_si (hq_si sx1 75 P.length (Int32.ofNat a)) 48 3 (Int32.ofNat (P.length + 1))) 48 5 1) 48 6 (Int32.ofNat (if l ≤ 2 then 1 else 0))) (v + 9) 0 (Int32.ofNat (kt + 1)) = sx2
    have kx2 : ∀ k i, ¬ (k = v + 9 ∧ i = 0) → ¬ (k = 48 ∧ i = 6) → ¬ (k = 48 ∧ i = 5) → ¬ (k = 48 ∧ i = 3) → ¬ (k = 75 ∧ i = P.length) → hq_gi sx2 k i = hq_gi sx1 k i := fun k i n1 n2 n3 n4 n5 => by rw [← esx, nn_n n1, nn_n n2, nn_n n3, nn_n n4, nn_n n5]
    have h2 : EX t L v k0 sx0 sm0 (a :: P) [] p pl q a b 1 (if l ≤ 2 then 1 else 0) op (kt + 1) kn kn d sx2 (hq_si sm 174 33 (Int32.ofNat (kt + 1))) := by
      refine EX_mk h1 (fun k i n1 n2 n3 n4 => kx2 k i (by omega) (by omega) (by omega) (by omega) (by omega)) (by rw [← esx]; rfl) (fun k i n1 n2 n3 => nn_n (by omega)) rfl ?_ ⟨⟨?_, ta⟩, ?_⟩ o1 (by unfold br; rw [if_neg t40, Nat.zero_add]; exact o2) ge_nil ((kx2 _ _ (by omega) (by omega) (by omega) (by omega) (by omega)).trans o4) ((nn_n (by omega)).trans o5) ?_ ?_ (by omega) (by rw [← esx, nn_g1]) nn_g1 (Nat.le_refl _) (by simp) (by unfold sg; rw [if_neg t40]; omega) ((kx2 _ _ (by omega) (by omega) (by omega) (by omega) (by omega)).trans m4) ((nn_n (by omega)).trans m5) (fun j j1 j2 => by omega) trivial (dpt_k w (fun j _ => ⟨nn_n (by omega), nn_n (by omega)⟩))
      · rw [← esx, nn_n (by omega), nn_n (by omega), nn_n (by omega), nn_g1]
        simp
      · rw [← esx, nn_n (by omega), nn_n (by omega), nn_n (by omega), nn_n (by omega)]
        exact nn_g1
      · exact stk_k _ _ (Nat.le_refl _) (fun i hi => kx2 _ _ (by omega) (by omega) (by omega) (by omega) (by omega)) s2
      · rw [← esx, nn_n (by omega), nn_n (by omega), nn_g1]; rfl
      · rw [← esx, nn_n (by omega), nn_g1]
    obtain ⟨p', pl', q', a', b', sx3, sm3, r1, r2, r3, r4⟩ := EX_adv hN h2
    rw [r1]
    simp only [ob]
    rw [if_pos (show mm_rfit (mm_ret mc_X6_readJoint) 1 = true from rfl)]
    refine Or.inl ⟨p', pl', q', a', b', _, _, sx3, sm3, rfl, knot_v f0 c3 hk, goOn_v (EX_f h2) r2, r3, r4, fun c => if_pos c, fun c => if_neg c⟩
  · have hk' : kt = 64 := by omega
    obtain ⟨s15, g1, g2, g3⟩ := hang_t (N := N) (x := Int32.ofNat a) s1 (by omega)
    rw [g1]
    simp only [ob]
    rw [pk_f (s := hq_si (hq_si s15 48 5 1) 48 6 (Int32.ofNat (if l ≤ 2 then 1 else 0))) hv (show hq_gr s15 48 1 = v by unfold hq_gr at gv ⊢; rw [g3]; exact gv) (by rw [nn_n (by omega), nn_n (by omega), g2 _ _ (by omega) (by omega), c2, hk'])]
    simp only [ob]
    rw [if_pos (show mm_rfit (mm_ret mc_X6_readJoint) 0 = true from rfl)]
    exact Or.inr ⟨_, _, rfl, knot_64 f0 (by rw [c3, hk']), bad_mk R (s := hq_si (hq_si s15 48 5 1) 48 6 (Int32.ofNat (if l ≤ 2 then 1 else 0))) (by rw [nn_n (by omega), nn_n (by omega), g2 _ _ (by omega) (by omega)]) (f := 2) (by omega) (by omega)⟩
end
