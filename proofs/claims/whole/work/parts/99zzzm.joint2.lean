/-! THE READER: the joints -/
def ct : List Nat → Prop
  | [] => False
  | x :: S => lv x = 4 ∨ (5 ≤ lv x ∧ ct S)
theorem ct_split : ∀ S : List Nat, ct S → ∃ Q1 x P1, S = Q1 ++ x :: P1 ∧ ge 5 Q1 ∧ lv x = 4 := by
  intro S
  induction S with
  | nil => exact fun h => absurd h id
  | cons x S ih =>
    intro h
    rcases h with h | ⟨h1, h2⟩
    · exact ⟨[], x, S, rfl, ge_nil, h⟩
    · obtain ⟨Q1, y, P1, e1, e2, e3⟩ := ih h2
      refine ⟨x :: Q1, y, P1, by rw [e1]; rfl, fun z hz => ?_, e3⟩
      rcases List.mem_cons.mp hz with e | e
      · rw [e]; exact h1
      · exact e2 z e
theorem ct_app {x : Nat} {P : List Nat} (hx : lv x = 4) : ∀ Q : List Nat, ge 5 Q → ct (Q ++ x :: P) := by
  intro Q
  induction Q with
  | nil => exact fun _ => Or.inl hx
  | cons y Q ih => exact fun h => Or.inr ⟨h y List.mem_cons_self, ih fun z hz => h z (List.mem_cons_of_mem _ hz)⟩
section
variable {N L v k0 p pl q a b due nf op kt pc kn d : Nat} {t : Nat → Nat} {sx0 sm0 sx sm : hq_S} {P Q : List Nat}
theorem tsx {x : Nat} (R : tk_R t L p pl q a b sx sm) (hx : x < 1000) : f_X9_isThisSign N (Int32.ofNat x) sx = some (if q = 5 ∧ a = x then 1 else 0, sx) := by
  have e5 : (hq_gi sx 49 4 = 5) = (q = 5) := tk_kx R 5 (by omega)
  unfold f_X9_isThisSign
  rw [ie e5]
  by_cases c : q = 5
  · have va := (R.2.2.2.2.2.2.2 (by omega)).1
    have la := tl_a R.2.2.2.2.2.2.1 (Or.inr c)
    rw [if_pos c, va, ie (nb_eq (show a < 2147483648 by omega) (show x < 2147483648 by omega))]
    by_cases c2 : a = x
    · rw [if_pos c2, if_pos ⟨c, c2⟩]
    · rw [if_neg c2, if_neg (fun w => c2 w.2)]
  · rw [if_neg c, if_neg (fun w => c w.1)]
theorem tsm {x : Nat} (R : tk_R t L p pl q a b sx sm) (f0 : hq_gi sm 174 28 = 0) (hx : x < 1000) : f_X12_isSign N (Int32.ofNat x) sm = some (if q = 5 ∧ a = x then 1 else 0, sm) := by
  have e5 : (hq_gi sm 174 26 = 3) = (q = 5) := tk_km R 5 (by omega)
  unfold f_X12_isSign
  rw [if_pos f0, ie e5]
  by_cases c : q = 5
  · have va := (R.2.2.2.2.2.2.2 (by omega)).2
    have la := tl_a R.2.2.2.2.2.2.1 (Or.inr c)
    have hab := (R.2.2.2.2.2.2.1.2.2.2.2 c).1
    rw [if_pos c, va, ie (nb_eq (show b < 2147483648 by omega) (show x < 2147483648 by omega))]
    by_cases c2 : a = x
    · rw [if_pos (by omega), if_pos ⟨c, c2⟩]
    · rw [if_neg (by omega), if_neg (fun w => c2 w.2)]
  · rw [if_neg c, if_neg (fun w => c w.1)]
theorem twm {x y : Nat} (R : tk_R t L p pl q a b sx sm) (f0 : hq_gi sm 174 28 = 0) (hx : x < 22) (hy : y < 22) (e : tk_c y = x) (u : ∀ z, z < 22 → tk_c z = x → z = y) : f_X12_isWord N (Int32.ofNat x) sm = some (if q = 3 ∧ a = y then 1 else 0, sm) := by
  have e5 : (hq_gi sm 174 26 = 0) = (q = 3) := tk_km R 3 (by omega)
  unfold f_X12_isWord
  rw [if_pos f0, ie e5]
  by_cases c : q = 3
  · have va := (R.2.2.2.2.2.2.2 (by omega)).2
    obtain ⟨la, hab⟩ := R.2.2.2.2.2.2.1.2.2.1 c
    have lb : b < 22 := hab ▸ (kk_ok a la).2
    rw [if_pos c, va, ie (nb_eq (show b < 2147483648 by omega) (show x < 2147483648 by omega))]
    by_cases c2 : a = y
    · rw [if_pos (by rw [hab, c2]; exact e), if_pos ⟨c, c2⟩]
    · rw [if_neg (fun w => c2 (u a la (hab ▸ w))), if_neg (fun w => c2 w.2)]
  · rw [if_neg c, if_neg (fun w => c w.1)]
theorem twf {x : Int32} (f0 : ¬ hq_gi sm 174 28 = 0) : f_X12_isWord N x sm = some (0, sm) := by
  unfold f_X12_isWord
  rw [if_neg f0]
theorem tsf {x : Int32} (f0 : ¬ hq_gi sm 174 28 = 0) : f_X12_isSign N x sm = some (0, sm) := by
  unfold f_X12_isSign
  rw [if_neg f0]
theorem jt_53 (h : EX t L v k0 sx0 sm0 P Q p pl q a b due nf op kt pc kn d sx sm) (hn : ¬ (q = 5 ∧ a = 41) ∨ op = 0) : f_X6_readJoint N sx = f_X6_readJoint_J53 N sx := by
  obtain ⟨R, -, -, ⟨o1, -, -, o4, -⟩, -⟩ := h
  unfold f_X6_readJoint
  rw [o4, ie (show ((0 : Int32) < Int32.ofNat op) = (0 < op) from nb_ltp (a := 0) (by omega) (by omega)), show (41 : Int32) = Int32.ofNat 41 from rfl, tsx R (by omega)]
  simp only [ob]
  by_cases c : 0 < op
  · rw [if_pos c, if_neg (show ¬ (q = 5 ∧ a = 41) from hn.elim id (fun w => by omega)), if_pos rfl]
  · rw [if_neg c]
theorem jt_z (R : tk_R t L p pl q a b sx sm) : (if (hq_gi sx 49 4) = (5 : Int32) then (f_X6_levelOf N (hq_gi sx 49 5) sx).bind fun y4 => some (y4.1, y4.2) else if (hq_gi sx 49 4) = (3 : Int32) then (f_X6_levelOf N (hq_gi sx 49 5) sx).bind fun y6 => some (y6.1, y6.2) else some ((-1 : Int32), sx)) = some (lvI (tl q a), sx) := by
  have e5 : (hq_gi sx 49 4 = 5) = (q = 5) := tk_kx R 5 (by omega)
  have e3 : (hq_gi sx 49 4 = 3) = (q = 3) := tk_kx R 3 (by omega)
  rw [ie e5, ie e3]
  unfold tl
  by_cases c : q = 5
  · have va := (R.2.2.2.2.2.2.2 (by omega)).1
    rw [if_pos c, va, levelOf_v (tl_a R.2.2.2.2.2.2.1 (Or.inr c)), if_pos (Or.inr c)]
    rfl
  · rw [if_neg c]
    by_cases c' : q = 3
    · have va := (R.2.2.2.2.2.2.2 (by omega)).1
      rw [if_pos c', va, levelOf_v (tl_a R.2.2.2.2.2.2.1 (Or.inl c')), if_pos (Or.inl c')]
      rfl
    · rw [if_neg c', if_neg (by omega)]
      rfl
theorem lvI_m1 {l : Nat} (h : l < 7) : (lvI l = -1) = (l = 0) := lvI_eq l h 0 (by omega)
theorem lvI_2 {l : Nat} (h : l < 7) : (lvI l = 2) = (l = 3) := lvI_eq l h 3 (by omega)
theorem lvI_3 {l : Nat} (h : l < 7) : (lvI l = 3) = (l = 4) := lvI_eq l h 4 (by omega)
theorem jt_o (R : tk_R t L p pl q a b sx sm) {l : Nat} (hl : tl q a = l) (h0 : ¬ l = 0) (h3 : ¬ l = 3) (h4 : ¬ l = 4) : f_X6_readJoint_J53 N sx = f_X6_readJoint_J167 N (lvI l) sx := by
  have h7 : l < 7 := hl ▸ tl_lt q a
  unfold f_X6_readJoint_J53
  rw [jt_z R, hl]
  simp only [ob]
  rw [ie (lvI_m1 h7), if_neg h0, ie (lvI_2 h7), if_neg h3, ie (lvI_3 h7), if_neg h4]
theorem jt_n (R : tk_R t L p pl q a b sx sm) (h : tl q a = 0 ∨ tl q a = 3) : f_X6_readJoint_J53 N sx = f_X6_readJoint_J100 N 0 sx := by
  have h7 := tl_lt q a
  unfold f_X6_readJoint_J53
  rw [jt_z R]
  simp only [ob]
  rw [ie (lvI_m1 h7), ie (lvI_2 h7)]
  rcases h with h | h
  · rw [if_pos h]; rfl
  · rw [if_neg (by omega), if_pos h]; rfl
def jt_cc (N : Nat) (s22 : hq_S) : Option (Int32 × hq_S) := if 0 < (hq_gi s22 48 3) then (hq_ld s22 75 72 ((hq_gi s22 48 3) - (1 : Int32))).bind fun x24 => (f_X6_levelOf N x24 s22).bind fun y25 => if y25.1 = (3 : Int32) then (f_X6_failed N (1 : Int32) y25.2).bind fun y27 => if mm_rfit (mm_ret mc_X6_readJoint) y27.1 = true then some (y27.1, y27.2) else none else f_X6_readJoint_J167 N (lvI 4) y25.2 else f_X6_readJoint_J167 N (lvI 4) s22
theorem jt_c (R : tk_R t L p pl q a b sx sm) (h : tl q a = 4) : f_X6_readJoint_J53 N sx = (f_X6_settle N (lvI 5) sx).bind fun s22 => jt_cc N s22 := by
  unfold f_X6_readJoint_J53
  rw [jt_z R, h]
  simp only [ob]
  rw [ie (lvI_m1 (show 4 < 7 by omega)), if_neg (by omega), ie (lvI_2 (show 4 < 7 by omega)), if_neg (by omega), ie (lvI_3 (show 4 < 7 by omega)), if_pos rfl]
  rfl
theorem cc_pop {n x : Nat} (e : hq_gi sx 48 3 = Int32.ofNat (n + 1)) (hn : n < 72) (e5 : hq_gi sx 75 n = Int32.ofNat x) (hx : x < 1000) : jt_cc N sx = if lv x = 4 then some (0, hq_si (hq_si sx 48 7 1) 48 8 (hq_gi sx 49 6)) else f_X6_readJoint_J167 N (lvI 4) sx := by
  unfold jt_cc
  rw [e, ie (show ((0 : Int32) < Int32.ofNat (n + 1)) = (0 < n + 1) from nb_ltp (a := 0) (by omega) (by omega)), if_pos (by omega), nn_pred, nn_ld (by omega) (by omega), e5]
  simp only [ob]
  rw [levelOf_v hx]
  simp only [ob]
  rw [ie (lvI_3 (lv_7 x)), fail_x]
  simp only [ob]
  rw [if_pos (show mm_rfit (mm_ret mc_X6_readJoint) 0 = true from rfl)]
/-- an operator that isn't a comparison -/
theorem rj_op {l : Nat} (h : EX t L v k0 sx0 sm0 P Q p pl q a b due nf op kt pc kn d sx sm) (hl : tl q a = l) (h0 : ¬ l = 0) (h3 : ¬ l = 3) (h4 : ¬ l = 4) : f_X6_readJoint N sx = f_X6_readJoint_J167 N (lvI l) sx := by
  rw [jt_53 h (Or.inl fun w => h0 (by rw [← hl, w.1, w.2]; rfl)), jt_o h.1 hl h0 h3 h4]
/-- a first comparison -/
theorem rj_cmp (hN : 1000 < N) (h : EX t L v k0 sx0 sm0 P Q p pl q a b due nf op kt pc kn d sx sm) (hl : tl q a = 4) (hQ : ge 5 Q) (hP : top 4 P) : ∃ sx1, f_X6_readJoint N sx = f_X6_readJoint_J167 N (lvI 4) sx1 ∧ EX t L v k0 sx0 sm0 P [] p pl q a b due nf op kt kn kn d sx1 sm := by
  obtain ⟨sx1, e1, h1⟩ := EX_settle hN (by omega) (by omega) h hQ (top_mono hP (show 4 ≤ 5 by omega))
  refine ⟨sx1, ?_, h1⟩
  rw [jt_53 h (Or.inl fun w => by rw [w.1, w.2] at hl; exact absurd hl (by decide)), jt_c h.1 hl, e1]
  simp only [ob]
  have hlen := EX_len h1
  obtain ⟨-, -, ⟨s1, s2⟩, ⟨o1, -⟩, -, ⟨c1, -⟩, -⟩ := h1
  simp only [List.length_nil, Nat.zero_add] at s1 hlen
  cases P with
  | nil =>
    unfold jt_cc
    rw [s1]
    rfl
  | cons x P =>
    rw [List.length_cons] at s1 hlen
    have hx : lv x < 4 := hP
    rw [cc_pop s1 (by omega) s2.1.1 s2.1.2, if_neg (by omega)]
/-- a second comparison -/
theorem rj_ct (hN : 1000 < N) (h : EX t L v k0 sx0 sm0 P Q p pl q a b due nf op kt pc kn d sx sm) (hl : tl q a = 4) (hc : ct (Q ++ P)) : ∃ sx', f_X6_readJoint N sx = some (0, sx') ∧ bad sx' (hq_si (hq_si sm 174 28 1) 174 29 (hq_gi sm 174 25)) := by
  have hlen := EX_len h
  obtain ⟨R, ⟨hv, gv⟩, ⟨s1, s2⟩, ⟨o1, o2, o3, o4, o5⟩, -, ⟨c1, -⟩, ⟨m1, m2, m3, m4, m5⟩, -⟩ := id h
  obtain ⟨Q1, x, P1, e1, e2, e3⟩ := ct_split _ hc
  have ln : Q.length + P.length = Q1.length + (P1.length + 1) := by
    have := congrArg List.length e1
    rw [List.length_append, List.length_append, List.length_cons] at this
    exact this
  have l1 : sg (Q ++ P) = sg (Q1 ++ x :: P1) := by rw [e1]
  rw [sg_app, sg_app, sg_ge1 Q o3, sg_ge1 Q1 (ge_mono e2 (by omega))] at l1
  rw [e1] at s2
  obtain ⟨s', g1, g2, g3, g4, g5, g6⟩ := settle_v (N := N) (l := 5) (P := x :: P1) hv (by omega) (by omega) (show lv x < 5 by omega) Q1 N pc sx gv (by omega) (by rw [List.length_cons]; omega) (by omega) (by rw [s1, ln, List.length_cons]) s2 e2 m4
  have sx5 : hq_gi s' 75 P1.length = Int32.ofNat x := (g5 _ _ (by omega) (by omega) (by omega)).trans (stk_app Q1 s2).1.1
  rw [jt_53 h (Or.inl fun w => by rw [w.1, w.2] at hl; exact absurd hl (by decide)), jt_c R hl]
  unfold f_X6_settle
  rw [g1]
  simp only [ob]
  rw [cc_pop (n := P1.length) g2 (by omega) sx5 (stk_app Q1 s2).1.2, if_pos e3]
  exact ⟨_, rfl, bad_mk R (s := s') (g5 _ _ (by omega) (by omega) (by omega)) (f := 1) (by omega) (by omega)⟩
/-- no operator -/
theorem rj_end (hN : 1000 < N) (h : EX t L v k0 sx0 sm0 P Q p pl q a b due nf op kt pc kn d sx sm) (hl : tl q a = 0 ∨ tl q a = 3) (hn : ¬ (q = 5 ∧ a = 41) ∨ op = 0) (hP : top 1 P) : (0 < op ∧ ∃ sx', f_X6_readJoint N sx = some (0, sx') ∧ bad sx' (hq_si (hq_si sm 174 28 1) 174 29 (hq_gi sm 174 25))) ∨ (op = 0 ∧ ∃ sx', f_X6_readJoint N sx = some (0, sx') ∧ EX t L v k0 sx0 sm0 P [] p pl q a b due nf op kt kn kn d sx' sm) := by
  obtain ⟨sx1, e1, h1⟩ := EX_settle hN (show 1 ≤ 1 by omega) (by omega) h h.2.2.2.1.2.2.1 hP
  obtain ⟨R, -, -, ⟨o1, -, -, o4, -⟩, -⟩ := id h1
  rw [jt_53 h hn, jt_n h.1 hl]
  unfold f_X6_readJoint_J100
  rw [show f_X6_settle N 0 sx = some sx1 from e1]
  simp only [ob]
  rw [o4, ie (show ((0 : Int32) < Int32.ofNat op) = (0 < op) from nb_ltp (a := 0) (by omega) (by omega)), fail_x]
  simp only [ob]
  rw [if_pos trivial]
  by_cases c : 0 < op
  · rw [if_pos c]
    exact Or.inl ⟨c, _, rfl, bad_mk R (s := sx1) rfl (f := 1) (by omega) (by omega)⟩
  · rw [if_neg c]
    exact Or.inr ⟨by omega, _, rfl, h1⟩
/-- a bracket is closed -/
theorem rj_close (hN : 1000 < N) (h : EX t L v k0 sx0 sm0 (40 :: P) Q p pl q a b due nf op kt pc kn d sx sm) (hq : q = 5) (ha : a = 41) : ∃ p' pl' q' a' b' sx' sm', f_X6_readJoint N sx = some (1, sx') ∧ f_X12_token N (hq_si sm 174 32 (Int32.ofNat (op - 1))) = some sm' ∧ EX t L v k0 sx0 sm0 P [] p' pl' q' a' b' due nf (op - 1) kt kn kn d sx' sm' ∧ p ≤ pl' ∧ 1 ≤ op := by
  obtain ⟨sx1, e1, h1⟩ := EX_settle hN (show 1 ≤ 1 by omega) (by omega) h h.2.2.2.1.2.2.1 (show lv 40 < 1 by decide)
  have hlen := EX_len h1
  obtain ⟨R, ⟨hv, gv⟩, ⟨s1, s2⟩, ⟨o1, o2, o3, o4, o5⟩, ⟨u1, u2⟩, ⟨c1, c2, c3⟩, ⟨m1, m2, m3, m4, m5⟩, ⟨m6, m7⟩, w, kx, km, z⟩ := id h1
  have hop : br P + 1 = op := by rw [← o2]; show br P + 1 = (if 40 = 40 then 1 else 0) + br P; rw [if_pos rfl]; omega
  have hsg : sg (40 :: P) = sg P := by show (if 40 = 40 then 0 else 1) + sg P = sg P; rw [if_pos rfl]; omega
  have h2 : EX t L v k0 sx0 sm0 P [] p pl q a b due nf (op - 1) kt kn kn d (hq_si (hq_si sx1 48 3 (Int32.ofNat P.length)) 48 4 (Int32.ofNat (op - 1))) (hq_si sm 174 32 (Int32.ofNat (op - 1))) := by
    refine EX_mk h1 (fun k i n1 n2 n3 n4 => by rw [nn_n (by omega), nn_n (by omega)]) rfl (fun k i n1 n2 n3 => nn_n (by omega)) rfl (by rw [nn_n (by omega), nn_g1]; simp) (stk_k P _ (Nat.le_refl _) (fun i _ => by rw [nn_n (by omega), nn_n (by omega)]) s2.2) (by omega) (by omega) ge_nil nn_g1 nn_g1 (by rw [nn_n (by omega), nn_n (by omega)]; exact u1) (by rw [nn_n (by omega), nn_n (by omega)]; exact u2) c1 (by rw [nn_n (by omega), nn_n (by omega)]; exact c2) ((nn_n (by omega)).trans c3) (Nat.le_refl _) (by simp) (by omega) (by rw [nn_n (by omega), nn_n (by omega)]; exact m4) ((nn_n (by omega)).trans m5) (fun j j1 j2 => by omega) trivial (dpt_k w (fun j _ => ⟨nn_n (by omega), nn_n (by omega)⟩))
  obtain ⟨p', pl', q', a', b', sx3, sm3, r1, r2, r3, r4⟩ := EX_adv hN h2
  refine ⟨p', pl', q', a', b', sx3, sm3, ?_, r2, r3, r4, by omega⟩
  simp only [List.length_nil, Nat.zero_add, List.length_cons] at s1
  have o4' : hq_gi sx 48 4 = Int32.ofNat op := h.2.2.2.1.2.2.2.1
  unfold f_X6_readJoint
  rw [o4', ie (show ((0 : Int32) < Int32.ofNat op) = (0 < op) from nb_ltp (a := 0) (by omega) (by omega)), if_pos (by omega), show (41 : Int32) = Int32.ofNat 41 from rfl, tsx h.1 (by omega), if_pos ⟨hq, ha⟩]
  simp only [ob]
  rw [if_neg (by decide), show f_X6_settle N 0 sx = some sx1 from e1]
  simp only [ob]
  rw [s1, nn_pred, nn_pi]
  simp only [ob]
  rw [nn_n (by omega), o4, show Int32.ofNat op - (1 : Int32) = Int32.ofNat (op - 1) from nb_sub (a := op) (b := 1) (by omega), nn_pi]
  simp only [ob]
  rw [r1]
  rfl
end
