/-! THE READER: primaries -/
def stp (N : Nat) (s : hq_S) : Option (Int32 × hq_S) := if hq_gi s 48 5 = 0 then f_X6_readJoint N s else f_X6_readSide N s
def rch (N : Nat) : Nat → hq_S → hq_S → Prop
  | 0, s, s' => s = s'
  | j + 1, s, s' => ∃ s1, stp N s = some (1, s1) ∧ rch N j s1 s'
theorem rch_tr {N : Nat} : ∀ (i j : Nat) (s u w : hq_S), rch N i s u → rch N j u w → rch N (i + j) s w := by
  intro i
  induction i with
  | zero =>
    intro j s u w h g
    have e : s = u := h
    rw [e, Nat.zero_add]; exact g
  | succ i ih =>
    intro j s u w h g
    obtain ⟨s1, e1, e2⟩ := h
    rw [show i + 1 + j = (i + j) + 1 by omega]
    exact ⟨s1, e1, ih j s1 u w e2 g⟩
theorem rch_1 {N : Nat} {s s' : hq_S} (h : stp N s = some (1, s')) : rch N 1 s s' := ⟨s', h, rfl⟩
def lc (c : Nat) : Nat := if c = 0 then 1 else if c = 1 then 2 else if c = 2 then 3 else if c = 3 then 5 else if c = 4 then 6 else 7
def lp (c : Nat) : Nat := if c = 0 then 1 else if c = 1 then 2 else if c = 2 then 4 else if c = 3 then 5 else if c = 4 then 6 else 7
/-- the token doesn't go on at this level -/
def rcn (c : Nat) (S : List Nat) (q a : Nat) : Prop := (c ≤ 4 → ¬ tl q a = 6) ∧ (c ≤ 3 → ¬ tl q a = 5) ∧ (c ≤ 2 → tl q a = 4 → ct S) ∧ (c ≤ 1 → ¬ tl q a = 2) ∧ (c = 0 → ¬ tl q a = 1)
def nfc (c nf q a : Nat) : Prop := (c ≤ 2 ∧ nf = 1) ∨ (3 ≤ c ∧ (nf = 0 ∨ (nf = 1 ∧ ¬ (q = 3 ∧ a = 21))))
/-- what a level does: read, or the same fault -/
def OUT (N : Nat) (t : Nat → Nat) (L v k0 : Nat) (sx0 sm0 : hq_S) (X : Option hq_S) (c : Nat) (P : List Nat) (op kt d pl : Nat) (sx : hq_S) : Prop :=
  ∃ sm', X = some sm' ∧ ((∃ j sx' Q p' pl' q' a' b' nf' kt' pc' kn', rch N j sx sx' ∧ pl + j ≤ pl' ∧ kt ≤ kt' ∧ EX t L v k0 sx0 sm0 P Q p' pl' q' a' b' 0 nf' op kt' pc' kn' (d + 1) sx' sm' ∧ ge (lc c) Q ∧ rcn c (Q ++ P) q' a') ∨ ∃ j sx1 sx', rch N j sx sx1 ∧ stp N sx1 = some (0, sx') ∧ bad sx' sm' ∧ pl + j ≤ L)
section
variable {N L v k0 p pl q a b due nf op kt pc kn d : Nat} {t : Nat → Nat} {sx0 sm0 sx sm : hq_S} {P Q : List Nat}
theorem stp_j (h : EX t L v k0 sx0 sm0 P Q p pl q a b 0 nf op kt pc kn d sx sm) : stp N sx = f_X6_readJoint N sx := if_pos h.2.2.2.2.1.1
theorem stp_s (h : EX t L v k0 sx0 sm0 P Q p pl q a b 1 nf op kt pc kn d sx sm) : stp N sx = f_X6_readSide N sx := if_neg (by rw [h.2.2.2.2.1.1]; decide)
theorem EX_pl (h : EX t L v k0 sx0 sm0 P Q p pl q a b due nf op kt pc kn d sx sm) : pl ≤ p ∧ p ≤ L ∧ (¬ q = 0 → pl < p) ∧ L ≤ 700 := ⟨h.1.2.2.1.1, h.1.2.2.1.2.1, h.1.2.2.1.2.2, h.1.1.1⟩
/-- a side of one token: a number, a name, or no side -/
theorem ps_tok (hN : 1000 < N) (h : EX t L v k0 sx0 sm0 P [] p pl q a b 1 nf op kt kn kn d sx sm) (hno : ¬ (q = 5 ∧ a = 40)) (hnf : nf = 0 ∨ (nf = 1 ∧ ¬ (q = 3 ∧ a = 21))) (R0 R1 R2 R3 R4 R5 : hq_S → Option hq_S) : OUT N t L v k0 sx0 sm0 (f_X12_primary_S N R0 R1 R2 R3 R4 R5 sm) 5 P op kt d pl sx := by
  have f0 := EX_f h
  have hlen := EX_len h
  have hpl := EX_pl h
  obtain ⟨R, ⟨hv, gv⟩, ⟨s1, s2⟩, ⟨o1, o2, o3, o4, o5⟩, ⟨u1, u2⟩, ⟨c1, c2, c3⟩, ⟨m1, m2, m3, m4, m5⟩, ⟨m6, m7⟩, w, kx, km, z⟩ := id h
  have hT : hq_isT v := hv
  simp only [List.length_nil, Nat.zero_add] at hlen
  have e4 : (hq_gi sx 49 4 = 4) = (q = 4) := tk_kx R 4 (by omega)
  have e3 : (hq_gi sx 49 4 = 3) = (q = 3) := tk_kx R 3 (by omega)
  have n2 : (hq_gi sm 174 26 = 2) = (q = 4) := tk_km R 4 (by omega)
  have n0 : (hq_gi sm 174 26 = 0) = (q = 3) := tk_km R 3 (by omega)
  have side : f_X6_readSide N sx = f_X6_readSide_J87 N sx := by
    unfold f_X6_readSide
    rw [show (40 : Int32) = Int32.ofNat 40 from rfl, tsx R (by omega), if_neg hno]
    simp only [ob]
    rw [if_pos trivial, u2]
    rcases hnf with e | ⟨e, n⟩
    · rw [e, if_pos (show Int32.ofNat 0 = 0 from rfl)]
    · rw [e, if_neg (by decide)]
      unfold f_X9_isKey
      rw [ie e3]
      by_cases c : q = 3
      · have va := (R.2.2.2.2.2.2.2 (by omega)).1
        have la := tl_a R.2.2.2.2.2.2.1 (Or.inl c)
        rw [if_pos c, va, ie (show (Int32.ofNat a = 21) = (a = 21) from nb_eq (b := 21) (by omega) (by omega)), if_neg (fun w => n ⟨c, w⟩)]
        simp only [ob]
        rw [if_pos trivial]
      · rw [if_neg c]
        simp only [ob]
        rw [if_pos trivial]
  have prim : f_X12_primary_S N R0 R1 R2 R3 R4 R5 sm = (if q = 4 then (if (9999 : Int32) < (hq_gi sm 174 27) then f_X12_wrong N 2 sm else some sm) else if q = 3 then (if (hq_gi sm 174 27) < (15 : Int32) then f_X12_wrong N 1 sm else some sm) else f_X12_wrong N 1 sm).bind fun z6 => (f_X12_knot N z6).bind fun s20 => (f_X12_puts N (if q = 4 then 0 else 1) (if q = 4 then hq_gi s20 174 27 else hq_gi s20 174 27 - (15 : Int32)) s20).bind fun s25 => f_X12_goOn N s25 := by
    have bs : ∀ x : Option hq_S, (x.bind fun s => some s) = x := fun x => by cases x <;> rfl
    unfold f_X12_primary_S
    rw [if_pos f0, show (40 : Int32) = Int32.ofNat 40 from rfl, tsm R f0 (by omega), if_neg hno]
    simp only [ob]
    rw [if_pos trivial, ie n2, ie n0]
    simp only [bs]
    by_cases c : q = 4
    · rw [if_pos c, if_pos c]
      simp only [ob]
      simp only [if_neg (show ¬ (1 : Int32) = 0 by decide), if_pos c, ob]
    · rw [if_neg c, if_neg c]
      simp only [ob]
      simp only [if_neg c, ob, if_true]
  unfold OUT
  rw [prim]
  -- both read it
  have good : ∀ (x va1 va2 : Int32) (kd : Int32), hr_knot x kd va2 → ¬ kd = 2 → ¬ q = 0 → (kt < 64 → (f_X4_put N (v + 9) x sx).bind (fun s11 => (hq_pi s11 48 5 1 (0 : Int32)).bind fun s12 => (f_X6_passKnot N s12).bind fun y13 => if mm_rfit (mm_ret mc_X6_readSide) y13.1 = true then some (y13.1, y13.2) else none) = stp N sx) → (¬ kt < 64 → (f_X4_put N (v + 9) x sx).bind (fun s11 => (hq_pi s11 48 5 1 (0 : Int32)).bind fun s12 => (f_X6_passKnot N s12).bind fun y13 => if mm_rfit (mm_ret mc_X6_readSide) y13.1 = true then some (y13.1, y13.2) else none) = stp N sx) → ∃ sm', ((f_X12_knot N sm).bind fun s20 => (f_X12_puts N kd va2 s20).bind fun s25 => f_X12_goOn N s25) = some sm' ∧ ((∃ j sx' Q p' pl' q' a' b' nf' kt' pc' kn', rch N j sx sx' ∧ pl + j ≤ pl' ∧ kt ≤ kt' ∧ EX t L v k0 sx0 sm0 P Q p' pl' q' a' b' 0 nf' op kt' pc' kn' (d + 1) sx' sm' ∧ ge (lc 5) Q ∧ rcn 5 (Q ++ P) q' a') ∨ ∃ j sx1 sx', rch N j sx sx1 ∧ stp N sx1 = some (0, sx') ∧ bad sx' sm' ∧ pl + j ≤ L) := by
    intro x va1 va2 kd hk hkd hq0 st1 st2
    by_cases hk64 : kt < 64
    · have st := st1 hk64
      rw [put_v m4 (by omega)] at st
      simp only [ob] at st
      rw [nn_pi10] at st
      simp only [ob] at st
      rw [pk_v (s := hq_si (hq_si (hq_si sx (v + 10) kn x) (v + 9) 1 (Int32.ofNat (kn + 1))) 48 5 0) (kt := kt) hv gv (by rw [nn_n (by omega), nn_n (by omega), nn_n (by omega)]; exact c2) hk64] at st
      rw [knot_v f0 c3 hk64]
      simp only [ob]
      rw [puts_v (kn := kn) (by rw [nn_n (by omega)]; exact f0) (by rw [nn_n (by omega)]; exact m5) (by omega)]
      simp only [ob]
      generalize esx : hq_si (hq_si (hq_si (hq_si sx (v + 10) kn x) (v + 9) 1 (Int32.ofNat (kn + 1))) 48 5 0) (v + 9) 0 (Int32.ofNat (kt + 1)) = sx2 at st
      generalize esm : hq_si (hq_si (hq_si (hq_si sm 174 33 (Int32.ofNat (kt + 1))) 192 (64 + kn) kd) 193 (64 + kn) va2) 176 13 (Int32.ofNat (kn + 1)) = sm2
      have X : ∀ k i, ¬ (k = v + 9 ∧ i = 0) → ¬ (k = 48 ∧ i = 5) → ¬ (k = v + 9 ∧ i = 1) → ¬ (k = v + 10 ∧ i = kn) → hq_gi sx2 k i = hq_gi sx k i := fun k i n1 n2 n3 n4 => by rw [← esx, nn_n n1, nn_n n2, nn_n n3, nn_n n4]
      have M : ∀ k i, ¬ (k = 176 ∧ i = 13) → ¬ (k = 193 ∧ i = 64 + kn) → ¬ (k = 192 ∧ i = 64 + kn) → ¬ (k = 174 ∧ i = 33) → hq_gi sm2 k i = hq_gi sm k i := fun k i n1 n2 n3 n4 => by rw [← esm, nn_n n1, nn_n n2, nn_n n3, nn_n n4]
      have x1 : hq_gi sx2 (v + 10) kn = x := by rw [← esx, nn_n (by omega), nn_n (by omega), nn_n (by omega), nn_g1]
      have y1 : hq_gi sm2 192 (64 + kn) = kd := by rw [← esm, nn_n (by omega), nn_n (by omega), nn_g1]
      have y2 : hq_gi sm2 193 (64 + kn) = va2 := by rw [← esm, nn_n (by omega), nn_g1]
      have h2 : EX t L v k0 sx0 sm0 P [] p pl q a b 0 nf op (kt + 1) (kn + 1) (kn + 1) (d + 1) sx2 sm2 := by
        refine EX_mk h (fun k i n1 n2 n3 n4 => X k i (by omega) (by omega) (by omega) (by omega)) (by rw [← esx]; rfl) (fun k i n1 n2 n3 => M k i n2 (by omega) (by omega) (by omega)) (by rw [← esm]; rfl) ((X _ _ (by omega) (by omega) (by omega) (by omega)).trans s1) (stk_k _ _ (Nat.le_refl _) (fun i _ => X _ _ (by omega) (by omega) (by omega) (by omega)) s2) o1 o2 ge_nil ((X _ _ (by omega) (by omega) (by omega) (by omega)).trans o4) ((M _ _ (by omega) (by omega) (by omega) (by omega)).trans o5) (by rw [← esx, nn_n (by omega), nn_g1]; rfl) ((X _ _ (by omega) (by omega) (by omega) (by omega)).trans u2) (by omega) (by rw [← esx, nn_g1]) (by rw [← esm, nn_n (by omega), nn_n (by omega), nn_n (by omega), nn_g1]) (by omega) (by simp) (by omega) (by rw [← esx, nn_n (by omega), nn_n (by omega), nn_g1]) (by rw [← esm, nn_g1]) (fun j j1 j2 => ?_) trivial (dpt_e (by omega) (dpt_k w (fun j hj => ⟨M _ _ (by omega) (by omega) (by omega) (by omega), M _ _ (by omega) (by omega) (by omega) (by omega)⟩)) ?_)
        · rw [show j = kn by omega, x1, y1, y2]; exact hk
        · rw [y1, y2]; exact Or.inl ⟨hkd, rfl⟩
      obtain ⟨p', pl', q', a', b', sx3, sm3, r1, r2, r3, r4⟩ := EX_adv hN h2
      rw [r1] at st
      simp only [ob] at st
      rw [if_pos (show mm_rfit (mm_ret mc_X6_readSide) 1 = true from rfl)] at st
      refine ⟨sm3, goOn_v (EX_f h2) r2, Or.inl ⟨1, sx3, [], p', pl', q', a', b', nf, kt + 1, kn + 1, kn + 1, rch_1 st.symm, ?_, by omega, r3, ge_nil, ?_⟩⟩
      · have := hpl.2.2.1 hq0
        omega
      · exact ⟨fun c => absurd c (by omega), fun c => absurd c (by omega), fun c => absurd c (by omega), fun c => absurd c (by omega), fun c => absurd c (by omega)⟩
    · have hk' : kt = 64 := by omega
      have st := st2 hk64
      obtain ⟨s11, g1, g2, g3⟩ : ∃ s11, f_X4_put N (v + 9) x sx = some s11 ∧ (∀ k i, ¬ (k = v + 10) → ¬ (k = v + 9 ∧ i = 1) → hq_gi s11 k i = hq_gi sx k i) ∧ s11.2 = sx.2 := by
        by_cases c : kn < 64
        · exact ⟨_, put_v m4 c, fun k i n1 n2 => by rw [nn_n n2, nn_n (by omega)], rfl⟩
        · exact ⟨sx, put_full m4 c (by omega), fun _ _ _ _ => rfl, rfl⟩
      rw [g1] at st
      simp only [ob] at st
      rw [nn_pi10] at st
      simp only [ob] at st
      rw [pk_f (s := hq_si s11 48 5 0) hv (show hq_gr s11 48 1 = v by unfold hq_gr at gv ⊢; rw [g3]; exact gv) (by rw [nn_n (by omega), g2 _ _ (by omega) (by omega), c2, hk'])] at st
      simp only [ob] at st
      rw [if_pos (show mm_rfit (mm_ret mc_X6_readSide) 0 = true from rfl)] at st
      have B := bad_mk R (s := hq_si s11 48 5 0) (by rw [nn_n (by omega), g2 _ _ (by omega) (by omega)]) (f := 2) (by omega) (by omega)
      rw [knot_64 f0 (by rw [c3, hk'])]
      simp only [ob]
      have fn : ¬ hq_gi (hq_si (hq_si sm 174 28 2) 174 29 (hq_gi sm 174 25)) 174 28 = 0 := fail_n (by decide)
      rw [puts_f fn]
      simp only [ob]
      exact ⟨_, goOn_f fn, Or.inr ⟨0, sx, _, rfl, st.symm, B, by omega⟩⟩
  have fails : ∀ f : Nat, 1 ≤ f → f ≤ 5 → stp N sx = some (0, hq_si (hq_si sx 48 7 (Int32.ofNat f)) 48 8 (hq_gi sx 49 6)) → ∀ y1 y2 : hq_S → Int32, ∃ sm', ((f_X12_wrong N (Int32.ofNat f) sm).bind fun z6 => (f_X12_knot N z6).bind fun s20 => (f_X12_puts N (y1 s20) (y2 s20) s20).bind fun s25 => f_X12_goOn N s25) = some sm' ∧ ((∃ j sx' Q p' pl' q' a' b' nf' kt' pc' kn', rch N j sx sx' ∧ pl + j ≤ pl' ∧ kt ≤ kt' ∧ EX t L v k0 sx0 sm0 P Q p' pl' q' a' b' 0 nf' op kt' pc' kn' (d + 1) sx' sm' ∧ ge (lc 5) Q ∧ rcn 5 (Q ++ P) q' a') ∨ ∃ j sx1 sx', rch N j sx sx1 ∧ stp N sx1 = some (0, sx') ∧ bad sx' sm' ∧ pl + j ≤ L) := by
    intro f h1 h2 st y1 y2
    have B := bad_mk R (s := sx) rfl h1 h2
    have fn := bad_n B
    rw [fail_m f0]
    simp only [ob]
    rw [knot_f fn]
    simp only [ob]
    rw [puts_f fn]
    simp only [ob]
    exact ⟨_, goOn_f fn, Or.inr ⟨0, sx, _, rfl, st, B, by omega⟩⟩
  have st0 : stp N sx = f_X6_readSide_J87 N sx := (stp_s h).trans side
  have rf0 : mm_rfit (mm_ret mc_X6_readSide) 0 = true := rfl
  by_cases c4 : q = 4
  · obtain ⟨v1, v2⟩ := R.2.2.2.2.2.2.2 (by omega)
    obtain ⟨w1, w2, w3⟩ := R.2.2.2.2.2.2.1.2.2.2.1 c4
    have t1 : ((9999 : Int32) < Int32.ofNat a) = (9999 < a) := nb_ltp (a := 9999) (by omega) (by omega)
    have t2 : ((9999 : Int32) < Int32.ofNat b) = (9999 < b) := nb_ltp (a := 9999) (by omega) (by omega)
    rw [if_pos c4, v2, ie t2]
    have jj : stp N sx = if 9999 < a then some (0, hq_si (hq_si sx 48 7 2) 48 8 (hq_gi sx 49 6)) else (f_X4_put N (v + 9) (Int32.ofNat a) sx).bind (fun s11 => (hq_pi s11 48 5 1 (0 : Int32)).bind fun s12 => (f_X6_passKnot N s12).bind fun y13 => if mm_rfit (mm_ret mc_X6_readSide) y13.1 = true then some (y13.1, y13.2) else none) := by
      rw [st0]
      unfold f_X6_readSide_J87 f_X6_readSide_J124 f_X6_readSide_J147
      rw [ie e4, if_pos c4]
      simp only [ob]
      rw [if_neg (by decide), if_neg (by decide), v1, ie t1, fail_x]
      simp only [ob]
      rw [if_pos rf0, gv, if_pos hT, if_neg (show ¬ (1 : Int32) = 0 by decide)]
      rfl
    by_cases c9 : 9999 < a
    · rw [if_pos (by omega)]
      rw [if_pos c9] at jj
      exact fails 2 (by omega) (by omega) jj _ _
    · have hab : a = b := by omega
      rw [if_neg (by omega)]
      rw [if_neg c9] at jj
      simp only [ob, if_pos c4]
      have kv : ∀ s20, f_X12_knot N sm = some s20 → hq_gi s20 174 27 = Int32.ofNat a := fun s20 e => by
        by_cases hk64 : kt < 64
        · rw [knot_v f0 c3 hk64] at e
          rw [← Option.some.inj e, nn_n (by omega), v2, hab]
        · rw [knot_64 f0 (by rw [c3]; congr 1; omega)] at e
          rw [← Option.some.inj e, nn_n (by omega), nn_n (by omega), v2, hab]
      obtain ⟨sm', g1, g2⟩ := good (Int32.ofNat a) 0 (Int32.ofNat a) 0 (Or.inl ⟨rfl, a, by omega, rfl, rfl⟩) (by decide) (by omega) (fun _ => jj.symm) (fun _ => jj.symm)
      refine ⟨sm', ?_, g2⟩
      rw [← g1]
      cases ek : f_X12_knot N sm with
      | none => rfl
      | some s20 =>
        simp only [ob]
        rw [kv s20 ek]
  · rw [if_neg c4]
    by_cases c3' : q = 3
    · obtain ⟨v1, v2⟩ := R.2.2.2.2.2.2.2 (by omega)
      obtain ⟨la, hab⟩ := R.2.2.2.2.2.2.1.2.2.1 c3'
      have lb : b < 22 := hab ▸ (kk_ok a la).2
      have nm : ∀ a, a < 22 → (tk_c a < 15 ↔ (a < 12 ∨ ¬ a < 19)) ∧ (12 ≤ a → a < 19 → tk_c a = a + 3) := by decide
      have t1 : (Int32.ofNat b < 15) = (b < 15) := nb_ltp (b := 15) (by omega) (by omega)
      have t2 : (Int32.ofNat a < 12) = (a < 12) := nb_ltp (b := 12) (by omega) (by omega)
      have t3 : (Int32.ofNat a < 19) = (a < 19) := nb_ltp (b := 19) (by omega) (by omega)
      have isn : f_X9_isName N sx = some (if 12 ≤ a ∧ a < 19 then 1 else 0, sx) := by
        unfold f_X9_isName
        rw [ie e3, if_pos c3', v1, ie t2, ie t3]
        by_cases d1 : a < 12
        · rw [if_pos d1, if_neg (by omega)]
        · rw [if_neg d1]
          by_cases d2 : a < 19
          · rw [if_pos d2, if_pos (by omega)]
          · rw [if_neg d2, if_neg (by omega)]
      rw [if_pos c3', v2, ie t1]
      have jj : stp N sx = if 12 ≤ a ∧ a < 19 then (f_X4_put N (v + 9) (Int32.ofNat (9988 + a)) sx).bind (fun s11 => (hq_pi s11 48 5 1 (0 : Int32)).bind fun s12 => (f_X6_passKnot N s12).bind fun y13 => if mm_rfit (mm_ret mc_X6_readSide) y13.1 = true then some (y13.1, y13.2) else none) else some (0, hq_si (hq_si sx 48 7 1) 48 8 (hq_gi sx 49 6)) := by
        rw [st0]
        unfold f_X6_readSide_J87 f_X6_readSide_J124 f_X6_readSide_J147
        rw [ie e4, if_neg c4]
        simp only [ob]
        rw [if_pos trivial, isn]
        simp only [ob]
        by_cases d1 : 12 ≤ a ∧ a < 19
        · rw [if_pos d1, if_pos d1, if_neg (by decide), if_pos trivial, gv, if_pos hT, if_pos trivial, v1, show (10000 : Int32) + Int32.ofNat a = Int32.ofNat (10000 + a) from nb_add 10000 a, show Int32.ofNat (10000 + a) - (12 : Int32) = Int32.ofNat (10000 + a - 12) from nb_sub (b := 12) (by omega), show 10000 + a - 12 = 9988 + a by omega]
          rfl
        · rw [if_neg d1, if_neg d1, if_pos rfl, fail_x]
          simp only [ob]
          rw [if_pos rf0]
      by_cases d1 : 12 ≤ a ∧ a < 19
      · have hb : b = a + 3 := hab.trans ((nm a la).2 d1.1 d1.2)
        rw [if_neg (by omega)]
        rw [if_pos d1] at jj
        simp only [ob, if_neg c4]
        have kv : ∀ s20, f_X12_knot N sm = some s20 → hq_gi s20 174 27 - (15 : Int32) = Int32.ofNat (a - 12) := fun s20 e => by
          have e27 : hq_gi s20 174 27 = Int32.ofNat b := by
            by_cases hk64 : kt < 64
            · rw [knot_v f0 c3 hk64] at e
              rw [← Option.some.inj e, nn_n (by omega), v2]
            · rw [knot_64 f0 (by rw [c3]; congr 1; omega)] at e
              rw [← Option.some.inj e, nn_n (by omega), nn_n (by omega), v2]
          rw [e27, show Int32.ofNat b - (15 : Int32) = Int32.ofNat (b - 15) from nb_sub (b := 15) (by omega), show b - 15 = a - 12 by omega]
        obtain ⟨sm', g1, g2⟩ := good (Int32.ofNat (9988 + a)) 0 (Int32.ofNat (a - 12)) 1 (Or.inr (Or.inl ⟨rfl, a - 12, by omega, rfl, by rw [show 10000 + (a - 12) = 9988 + a by omega]⟩)) (by decide) (by omega) (fun _ => jj.symm) (fun _ => jj.symm)
        refine ⟨sm', ?_, g2⟩
        rw [← g1]
        cases ek : f_X12_knot N sm with
        | none => rfl
        | some s20 =>
          simp only [ob]
          rw [kv s20 ek]
      · rw [if_pos (by have := (nm a la).1; rw [hab]; exact this.mpr (by omega))]
        rw [if_neg d1] at jj
        exact fails 1 (by omega) (by omega) jj _ _
    · rw [if_neg c3']
      have jj : stp N sx = some (0, hq_si (hq_si sx 48 7 1) 48 8 (hq_gi sx 49 6)) := by
        rw [st0]
        unfold f_X6_readSide_J87 f_X9_isName
        rw [ie e4, if_neg c4]
        simp only [ob]
        rw [if_pos trivial, ie e3, if_neg c3']
        simp only [ob]
        rw [if_pos trivial, fail_x]
        simp only [ob]
        rw [if_pos rf0]
      exact fails 1 (by omega) (by omega) jj _ _
end
