/-! CHASE (19), FLEE (21) -/
/-- what class and reference know of a row and a corner -/
def cA (n g : Nat) (tn : Nat → Nat) (p : Nat → Nat) (c : Nat) (x v : Int32) : Prop := (∃ j, j < 20000 ∧ cE n g tn j p c ∧ x = Int32.ofNat j ∧ v = Int32.ofNat j) ∨ (x = 2147483647 ∧ v = -1 ∧ ∀ i, ¬ cL n g tn i p c)
theorem mx_n {j : Nat} (hj : j < 20000) : ¬ Int32.ofNat j = 2147483647 ∧ Int32.ofNat j < 2147483647 ∧ ¬ (2147483647 : Int32) < Int32.ofNat j := by
  have e : (2147483647 : Int32) = Int32.ofNat 2147483647 := rfl
  rw [e, nn_inj (by omega) (by omega), nn_lt (by omega) (by omega), nn_lt (by omega) (by omega)]
  omega
section
variable {N n g : Nat} {nx : Nat → Nat}
theorem cA_of {K K' c : Nat} {p : Nat → Nat} {sx sm : hq_S} (hn : n ≤ 10) (hK : K < 20000) (hK' : K' < 20000) (B : cB n g (tnx nx)) (S : cS n g (tnx nx) K sx) (Fx : cF n g (tnx nx) K) (M : cM n g nx K' sm) (hp : ∀ j, j < g → p j < n) (hc : c < n) : cA n g (tnx nx) p c (hq_gi sx 158 (enc n p g * n + c)) (hq_gi sm 208 (enc 10 (pud p g c) (g + 1))) := by
  obtain ⟨-, -, v1⟩ := cS_v B S Fx hp hc
  obtain ⟨-, v2⟩ := cM_v hn M hp hc
  rcases v1 with ⟨j, j1, j2, j3⟩ | ⟨j1, j2⟩ <;> rcases v2 with ⟨i, i1, i2, i3⟩ | ⟨i1, i2⟩
  · have := cE_eq j2 i2
    subst this
    exact Or.inl ⟨j, by omega, j2, j3, i3⟩
  · exact absurd j2.1 (i2 j)
  · exact absurd i2.1 (j2 i)
  · exact Or.inr ⟨j1, i1, j2⟩
theorem rf_all {p : Nat → Nat} {c : Nat} {s : hq_S} (B : cB n g (tnx nx)) (hp : ∀ j, j < g → p j < n) (hc : c < n) (h0 : hq_gi s 152 0 = Int32.ofNat n) : f_X0_roundsFrom N (Int32.ofNat (enc n p g)) (Int32.ofNat c) s = some (hq_gi s 158 (enc n p g * n + c), s) := by
  have el := enc_lt g hp
  have hM := cB_M B
  have il := cx_il el hc
  have ld : hq_ld s 158 10000 (Int32.ofNat (enc n p g * n + c)) = some (hq_gi s 158 (enc n p g * n + c)) := nn_ld (by omega) (by omega)
  unfold f_X0_roundsFrom
  rw [h0, nb_mul, nb_add, ld, Option.bind_some]
end
theorem hs_op_19 {N : Nat} (hN : 10300 < N) (a1 a2 : Int32) : hq_Sim (hR hC) (f_X11_chase N a1 a2) (f_X12_chase N a1 a2) := fun sx sm R => by
  have R2 := hR_th hC_loc (x := 0) R
  have H := R.2.2.2.2.1
  obtain ⟨nc, nl, ng, nt, t, bar, fr, to, on, TT⟩ := R.2.2.2.2.2
  obtain ⟨I, T⟩ := hT_th 0 R.2.2.1 TT
  have T0 := T
  obtain ⟨⟨t1, t2, t3⟩, ⟨⟨b1, b2, b3, b4⟩, ⟨c1, c2, -, -, g1, g2, d1, d2⟩, -⟩, -⟩ := T
  have d10 : ¬ (1 : Int32) = 0 := by decide
  have fin : ∀ v sx' sm', f_X11_chase N a1 a2 sx = some (v, sx') → f_X12_chase N a1 a2 sm = some (v, sm') → hC sx' → ∃ v sx' sm', f_X11_chase N a1 a2 sx = some (v, sx') ∧ f_X12_chase N a1 a2 sm = some (v, sm') ∧ hR hC sx' sm' := fun v sx' sm' ex em hC' => by
    have kx := f_X11_chase_fw ex
    have km := f_X12_chase_fw em
    exact ⟨v, sx', sm', ex, em, hR_kc (kx.kp (by decide)) (km.kp (by decide)) (hm_o_fc (by decide) km) hC' R⟩
  rcases hs_areGuards (N := N) (a := a1) b3 t1 t2 g1 g2 with ⟨G, hG, rfl, e1, e2⟩ | ⟨e1, e2⟩
  · rcases hs_isCorner (N := N) (a := a2) (by omega) t1 t2 c1 c2 with ⟨c, hc, rfl, e3, e4⟩ | ⟨e3, e4⟩
    · obtain ⟨ga, sm1, p1, p2, p3, p4, p5, p6⟩ := ch_both (N := N) (G := G) hN (by omega) hG I H T0
      obtain ⟨s2, r1, r2, r3⟩ := rs_all (N := N) (c := c) (by omega) p2 (fun j hj => by have := p1 j hj; omega) (by omega) p4 p5
      rcases p6 with rfl | ⟨q0, q1, K, K', sx1, M, k1, k2, bc, so, row, B, S, Fx, hC1, kk⟩
      · have pz : nb_pop 0 ng = 0 := by
          have : ∀ m, nb_pop 0 m = 0 := fun m => by
            induction m with
            | zero => rfl
            | succ m ih => rw [nb_pop, ih, Nat.zero_testBit]; rfl
          exact this ng
        rw [pz, if_pos rfl] at r1
        refine fin (-2) sx s2 ?_ ?_ H
        · have : f_X11_roundsOfChase N (Int32.ofNat 0) (Int32.ofNat c) sx = some (2147483647, sx) := by
            unfold f_X11_roundsOfChase
            rw [if_pos (show Int32.ofNat 0 = 0 from rfl)]
          unfold f_X11_chase
          rw [e1, Option.bind_some, if_neg d10, e3, Option.bind_some, if_neg d10, this, Option.bind_some, if_pos rfl]
        · unfold f_X12_chase
          rw [nn_pi, Option.bind_some, e2, Option.bind_some, if_neg d10, e4, Option.bind_some, if_neg d10, p3, Option.bind_some, r1, Option.bind_some, if_pos rfl]
      · have z0 : ¬ Int32.ofNat G = 0 := by rw [nb_eq0 (by have : (2 : Nat) ^ ng ≤ 8 := Nat.pow_le_pow_right (by omega) (show ng ≤ 3 by omega); omega)]; exact q0
        have rf := rf_all (N := N) (p := fun j => ga (gs G ng j)) B p1 hc S.1.1
        have an := cA_of b1 k1 k2 B S Fx M p1 hc
        rw [if_neg (by omega)] at r1
        have ro : f_X11_roundsOfChase N (Int32.ofNat G) (Int32.ofNat c) sx = some (hq_gi sx1 158 (enc nc (fun j => ga (gs G ng j)) (nb_pop G ng) * nc + c), sx1) := by
          unfold f_X11_roundsOfChase
          rw [if_neg z0, bc, Option.bind_some, so, Option.bind_some, row, Option.bind_some, rf, Option.bind_some]
        have v208 : hq_gi s2 208 (enc 10 (pud (fun j => ga (gs G ng j)) (nb_pop G ng) c) (nb_pop G ng + 1)) = hq_gi sm1 208 (enc 10 (pud (fun j => ga (gs G ng j)) (nb_pop G ng) c) (nb_pop G ng + 1)) := r3 _ _ (by omega)
        rw [v208] at r1
        rcases an with ⟨j, j1, j2, j3, j4⟩ | ⟨j1, j2, j3⟩
        · refine fin (Int32.ofNat j) sx1 s2 ?_ ?_ hC1
          · unfold f_X11_chase
            rw [e1, Option.bind_some, if_neg d10, e3, Option.bind_some, if_neg d10, ro, Option.bind_some, j3, if_neg (mx_n j1).1]
          · unfold f_X12_chase
            rw [nn_pi, Option.bind_some, e2, Option.bind_some, if_neg d10, e4, Option.bind_some, if_neg d10, p3, Option.bind_some, r1, Option.bind_some, j4, if_neg (sw_m1n (by omega))]
        · refine fin (-2) sx1 s2 ?_ ?_ hC1
          · unfold f_X11_chase
            rw [e1, Option.bind_some, if_neg d10, e3, Option.bind_some, if_neg d10, ro, Option.bind_some, j1, if_pos rfl]
          · unfold f_X12_chase
            rw [nn_pi, Option.bind_some, e2, Option.bind_some, if_neg d10, e4, Option.bind_some, if_neg d10, p3, Option.bind_some, r1, Option.bind_some, j2, if_pos rfl]
    · exact ⟨-1, sx, hq_si sm 174 0 0, by unfold f_X11_chase; rw [e1, Option.bind_some, if_neg d10, e3, Option.bind_some, if_pos rfl], by unfold f_X12_chase; rw [nn_pi, Option.bind_some, e2, Option.bind_some, if_neg d10, e4, Option.bind_some, if_pos rfl], R2⟩
  · exact ⟨-1, sx, hq_si sm 174 0 0, by unfold f_X11_chase; rw [e1, Option.bind_some, if_pos rfl], by unfold f_X12_chase; rw [nn_pi, Option.bind_some, e2, Option.bind_some, if_pos rfl], R2⟩
/-! where to flee -/
section
variable {N n g : Nat} {nx : Nat → Nat}
def fl_al (x v : Int32) : Prop := (∃ j, j < 20000 ∧ x = Int32.ofNat j ∧ v = Int32.ofNat j) ∨ (x = 2147483647 ∧ v = 100000)
theorem fl_lt {x v y w : Int32} (h1 : fl_al x v) (h2 : fl_al y w) : (x < y ↔ v < w) := by
  have e : (2147483647 : Int32) = Int32.ofNat 2147483647 := rfl
  have f : (100000 : Int32) = Int32.ofNat 100000 := rfl
  rcases h1 with ⟨j, j1, rfl, rfl⟩ | ⟨rfl, rfl⟩ <;> rcases h2 with ⟨i, i1, rfl, rfl⟩ | ⟨rfl, rfl⟩
  · exact Iff.rfl
  · rw [e, f, nn_lt (by omega) (by omega), nn_lt (by omega) (by omega)]; omega
  · rw [e, f, nn_lt (by omega) (by omega), nn_lt (by omega) (by omega)]; omega
  · decide
theorem fl_m1 {x v : Int32} (h : fl_al x v) : (-1 : Int32) < x ∧ (-1 : Int32) < v := by
  rcases h with ⟨j, j1, rfl, rfl⟩ | ⟨rfl, rfl⟩
  · have : (-1 : Int32) < Int32.ofNat j := by
      rw [Int32.lt_iff_toInt_lt, nn_toInt (by omega)]
      have z : (-1 : Int32).toInt = -1 := by decide
      rw [z]; omega
    exact ⟨this, this⟩
  · decide
/-- both go through the corners -/
theorem fl_both {K K' c0 : Nat} {p gi : Nat → Nat} {a1 : Int32} {sx : hq_S} (hN : 100 < N) (hn : n ≤ 10) (hnx : ∀ c, nx c < 2 ^ n) (hK : K < 20000) (hK' : K' < 20000) (B : cB n g (tnx nx)) (S : cS n g (tnx nx) K sx) (Fx : cF n g (tnx nx) K) (hp : ∀ j, j < g → p j < n) (hc0 : c0 < n) : ∀ (q c m m' : Nat) (be bx : Int32) (xm vm : Int32) (s : hq_S), c + q = n → q < m → q < m' → cM n g nx K' s → cW g gi p s → (∀ j, j < g → hq_gi s 214 j = Int32.ofNat (p j)) → ((xm = -1 ∧ vm = -1 ∧ ∀ c', c' < c → ¬ (tnx nx c0).testBit c' = true) ∨ (be = bx ∧ fl_al xm vm)) → ∃ v s', f_X0_safest_L8 N m (Int32.ofNat (enc n p g)) (Int32.ofNat c0) be xm (Int32.ofNat c) sx = some (v, sx) ∧ f_X12_flee_L60 N m' a1 (Int32.ofNat c0) (Int32.ofNat (tnx nx c0)) bx vm (Int32.ofNat c) s = some (v, s') := by
  have g3 := B.2.2.2.1
  have g1 := B.2.2.1
  have tl := tnx_lt hn hnx c0
  have t1 : hq_ld sx 153 10 (Int32.ofNat c0) = some (Int32.ofNat (tnx nx c0)) := by rw [nn_ld (by omega) (by omega), S.1.2.2.2 c0 (by omega)]
  have self : (tnx nx c0).testBit c0 = true := by rw [tnx, if_pos (by omega), Nat.testBit_or, nb_2p, decide_eq_true rfl, Bool.or_true]
  intro q
  induction q with
  | zero =>
    intro c m m' be bx xm vm s hc hm hm' M W D st
    obtain ⟨m, rfl⟩ : ∃ j, m = j + 1 := ⟨m - 1, by omega⟩
    obtain ⟨m', rfl⟩ : ∃ j, m' = j + 1 := ⟨m' - 1, by omega⟩
    have cc : ¬ Int32.ofNat c < Int32.ofNat n := by rw [nn_lt (by omega) (by omega)]; omega
    rcases st with ⟨-, -, no⟩ | ⟨rfl, -⟩
    · exact absurd self (no c0 (by omega))
    · refine ⟨be, s, ?_, ?_⟩
      · rw [f_X0_safest_L8_s]
        unfold f_X0_safest_L8_B
        rw [S.1.1, if_neg cc]
      · rw [f_X12_flee_L60_s]
        unfold f_X12_flee_L60_B
        rw [cm_n M.1, Option.bind_some, if_neg cc]
  | succ q ih =>
    intro c m m' be bx xm vm s hc hm hm' M W D st
    obtain ⟨m, rfl⟩ : ∃ j, m = j + 1 := ⟨m - 1, by omega⟩
    obtain ⟨m', rfl⟩ : ∃ j, m' = j + 1 := ⟨m' - 1, by omega⟩
    have cc : Int32.ofNat c < Int32.ofNat n := (nn_lt (by omega) (by omega)).mpr (by omega)
    have hcn : c < n := by omega
    by_cases q1 : (tnx nx c0).testBit c = true
    · have x1 : ((Int32.ofNat (tnx nx c0) >>> (Int32.ofNat c &&& 31)) &&& (1 : Int32)) = 1 := by rw [nb_bit1 (by omega) (by omega)]; exact q1
      have m0 : ¬ ((Int32.ofNat (tnx nx c0) >>> (Int32.ofNat c &&& 31)) &&& (1 : Int32)) = 0 := by rw [nb_bit0 (by omega) (by omega), q1]; decide
      have rf := rf_all (N := N) (p := p) B hp hcn S.1.1
      have an := cA_of hn hK hK' B S Fx M hp hcn
      obtain ⟨va, va1, va2⟩ := isAt_all (N := N) (c := c) hN g3 (fun j hj => by have := hp j hj; omega) (by omega) M.1 D
      -- what the reference finds: w, in the state s2
      obtain ⟨w, s2, w1, w2, w3⟩ : ∃ w s2, (∀ f : Int32 → hq_S → Option (Int32 × hq_S), ((if va = 0 then (f_X12_roundsOf N (Int32.ofNat c) s).bind fun y18 => some (y18.1, y18.2) else some ((0 : Int32), s)).bind fun z16 => (if z16.1 = (-1 : Int32) then some (100000 : Int32) else some z16.1).bind fun z19 => f z19 z16.2) = f w s2) ∧ fl_al (hq_gi sx 158 (enc n p g * n + c)) w ∧ (cM n g nx K' s2 ∧ cW g gi p s2 ∧ ∀ j, j < g → hq_gi s2 214 j = Int32.ofNat (p j)) := by
        rcases va2 with ⟨rfl, va2⟩ | ⟨rfl, va2⟩
        · refine ⟨0, s, fun f => ?_, ?_, M, W, D⟩
          · rw [if_neg (show ¬ (1 : Int32) = 0 by decide), Option.bind_some, if_neg (show ¬ (0 : Int32) = -1 by decide), Option.bind_some]
          · rcases an with ⟨j, j1, j2, j3, j4⟩ | ⟨-, -, j3⟩
            · have : j = 0 := by
                by_cases z : j = 0
                · exact z
                · exact absurd va2 (j2.2 0 (by omega))
              rw [this] at j3
              exact Or.inl ⟨0, by omega, j3, rfl⟩
            · exact absurd va2 (j3 0)
        · obtain ⟨s2, r1, r2, r3⟩ := rs_all (N := N) (c := c) hN g3 (fun j hj => by have := hp j hj; omega) (by omega) M.1 W
          rw [if_neg (by omega)] at r1
          have M2 : cM n g nx K' s2 := ⟨cm_F_k (fun c i h => r3 c i (by omega)) M.1, fun y hy => by rw [r3 _ _ (by omega)]; exact M.2.1 y hy, M.2.2⟩
          have W2 : cW g gi p s2 := fun j hj => by rw [r3 _ _ (by omega), r3 _ _ (by omega)]; exact W j hj
          have v208 := r3 208 (enc 10 (pud p g c) (g + 1)) (by omega)
          rw [v208] at r1
          rcases an with ⟨j, j1, j2, j3, j4⟩ | ⟨j1, j2, -⟩
          · refine ⟨Int32.ofNat j, s2, fun f => ?_, Or.inl ⟨j, j1, j3, rfl⟩, M2, W2, r2⟩
            rw [if_pos rfl, r1, Option.bind_some, Option.bind_some, j4, if_neg (sw_m1n (by omega)), Option.bind_some]
          · refine ⟨100000, s2, fun f => ?_, Or.inr ⟨j1, rfl⟩, M2, W2, r2⟩
            rw [if_pos rfl, r1, Option.bind_some, Option.bind_some, j2, if_pos rfl, Option.bind_some]
      -- the comparison
      have stepX : f_X0_safest_L8 N (m + 1) (Int32.ofNat (enc n p g)) (Int32.ofNat c0) be xm (Int32.ofNat c) sx = if xm < hq_gi sx 158 (enc n p g * n + c) then f_X0_safest_L8 N m (Int32.ofNat (enc n p g)) (Int32.ofNat c0) (Int32.ofNat c) (hq_gi sx 158 (enc n p g * n + c)) (Int32.ofNat (c + 1)) sx else f_X0_safest_L8 N m (Int32.ofNat (enc n p g)) (Int32.ofNat c0) be xm (Int32.ofNat (c + 1)) sx := by
        rw [f_X0_safest_L8_s]
        unfold f_X0_safest_L8_B
        rw [S.1.1, if_pos cc, t1, Option.bind_some, if_pos x1, rf, Option.bind_some, nn_succ]
        by_cases z : xm < hq_gi sx 158 (enc n p g * n + c)
        · rw [if_pos z, if_pos z, rf, Option.bind_some, Option.bind_some]
        · rw [if_neg z, if_neg z, Option.bind_some]
      have stepM : f_X12_flee_L60 N (m' + 1) a1 (Int32.ofNat c0) (Int32.ofNat (tnx nx c0)) bx vm (Int32.ofNat c) s = if vm < w then f_X12_flee_L60 N m' a1 (Int32.ofNat c0) (Int32.ofNat (tnx nx c0)) (Int32.ofNat c) w (Int32.ofNat (c + 1)) s2 else f_X12_flee_L60 N m' a1 (Int32.ofNat c0) (Int32.ofNat (tnx nx c0)) bx vm (Int32.ofNat (c + 1)) s2 := by
        rw [f_X12_flee_L60_s]
        unfold f_X12_flee_L60_B
        rw [cm_n M.1, Option.bind_some, if_pos cc, if_neg m0, va1, Option.bind_some]
        have := w1 (fun z19 z2 => (if vm < z19 then some (Int32.ofNat c, z19) else some (bx, vm)).bind fun z21 => f_X12_flee_L60 N m' a1 (Int32.ofNat c0) (Int32.ofNat (tnx nx c0)) z21.1 z21.2 (Int32.ofNat c + 1) z2)
        rw [this, nn_succ]
        by_cases z : vm < w
        · rw [if_pos z, if_pos z, Option.bind_some]
        · rw [if_neg z, if_neg z, Option.bind_some]
      rw [stepX, stepM]
      rcases st with ⟨rfl, rfl, -⟩ | ⟨rfl, al⟩
      · rw [if_pos (fl_m1 w2).1, if_pos (fl_m1 w2).2]
        exact ih (c + 1) m m' _ _ _ _ s2 (by omega) (by omega) (by omega) w3.1 w3.2.1 w3.2.2 (Or.inr ⟨rfl, w2⟩)
      · have iff := fl_lt al w2
        by_cases z : xm < hq_gi sx 158 (enc n p g * n + c)
        · rw [if_pos z, if_pos (iff.mp z)]
          exact ih (c + 1) m m' _ _ _ _ s2 (by omega) (by omega) (by omega) w3.1 w3.2.1 w3.2.2 (Or.inr ⟨rfl, w2⟩)
        · rw [if_neg z, if_neg (fun y => z (iff.mpr y))]
          exact ih (c + 1) m m' _ _ _ _ s2 (by omega) (by omega) (by omega) w3.1 w3.2.1 w3.2.2 (Or.inr ⟨rfl, al⟩)
    · have x1 : ¬ ((Int32.ofNat (tnx nx c0) >>> (Int32.ofNat c &&& 31)) &&& (1 : Int32)) = 1 := by rw [nb_bit1 (by omega) (by omega)]; exact q1
      have m0 : ((Int32.ofNat (tnx nx c0) >>> (Int32.ofNat c &&& 31)) &&& (1 : Int32)) = 0 := by
        rw [nb_bit0 (by omega) (by omega)]
        cases z : (tnx nx c0).testBit c with
        | true => exact absurd z q1
        | false => rfl
      obtain ⟨v, s', e1, e2⟩ := ih (c + 1) m m' be bx xm vm s (by omega) (by omega) (by omega) M W D (by
        rcases st with ⟨h1, h2, h3⟩ | h
        · refine Or.inl ⟨h1, h2, fun c' hc' => ?_⟩
          by_cases e : c' = c
          · rw [e]; exact q1
          · exact h3 c' (by omega)
        · exact Or.inr h)
      refine ⟨v, s', ?_, ?_⟩
      · rw [← e1, f_X0_safest_L8_s]
        unfold f_X0_safest_L8_B
        rw [S.1.1, if_pos cc, t1, Option.bind_some, if_neg x1, Option.bind_some, nn_succ]
      · rw [← e2, f_X12_flee_L60_s]
        unfold f_X12_flee_L60_B f_X12_flee_J133
        rw [cm_n M.1, Option.bind_some, if_pos cc, if_pos m0, nn_succ]
/-- nobody chases: what comes behind changes nothing -/
theorem fl_rest {c0 : Nat} {a1 bx : Int32} {T : Nat} (hN : 100 < N) (hn : n ≤ 10) (hT : T < 1024) : ∀ (q c m : Nat) (s : hq_S), c + q = n → q < m → cm_F n 0 nx s → f_X12_flee_L60 N m a1 (Int32.ofNat c0) (Int32.ofNat T) bx 100000 (Int32.ofNat c) s = some (bx, s) := by
  intro q
  induction q with
  | zero =>
    intro c m s hc hm F
    obtain ⟨m, rfl⟩ : ∃ j, m = j + 1 := ⟨m - 1, by omega⟩
    have cc : ¬ Int32.ofNat c < Int32.ofNat n := by rw [nn_lt (by omega) (by omega)]; omega
    rw [f_X12_flee_L60_s]
    unfold f_X12_flee_L60_B
    rw [cm_n F, Option.bind_some, if_neg cc]
  | succ q ih =>
    intro c m s hc hm F
    obtain ⟨m, rfl⟩ : ∃ j, m = j + 1 := ⟨m - 1, by omega⟩
    have cc : Int32.ofNat c < Int32.ofNat n := (nn_lt (by omega) (by omega)).mpr (by omega)
    have h := ih (c + 1) m s (by omega) (by omega) F
    rw [← h, f_X12_flee_L60_s]
    unfold f_X12_flee_L60_B f_X12_flee_J133
    rw [cm_n F, Option.bind_some, if_pos cc]
    by_cases m0 : ((Int32.ofNat T >>> (Int32.ofNat c &&& 31)) &&& (1 : Int32)) = 0
    · rw [if_pos m0, nn_succ]
    · obtain ⟨va, va1, va2⟩ := isAt_all (N := N) (p := fun _ => 0) (c := c) hN (show 0 ≤ 3 by omega) (fun j hj => by omega) (by omega) F (fun j hj => by omega)
      have va0 : va = 0 := by
        rcases va2 with ⟨-, i, hi, -⟩ | ⟨h, -⟩
        · omega
        · exact h
      subst va0
      obtain ⟨N', rfl⟩ : ∃ k, N = k + 1 := ⟨N - 1, by omega⟩
      have ro : f_X12_roundsOf (N' + 1) (Int32.ofNat c) s = some (-1, s) := by
        unfold f_X12_roundsOf
        rw [f_X12_roundsOf_L2_s]
        unfold f_X12_roundsOf_L2_B
        have z1 : hq_gi s 174 60 = 0 := F.2.1
        rw [z1, if_neg (show ¬ (0 : Int32) < 0 by decide), if_pos rfl]
      rw [if_neg m0, va1, Option.bind_some, if_pos rfl, ro, Option.bind_some, Option.bind_some, if_pos rfl, Option.bind_some, if_neg (show ¬ (100000 : Int32) < 100000 by decide), Option.bind_some, nn_succ]
theorem fl_free {c0 : Nat} {a1 : Int32} {sx : hq_S} (hN : 100 < N) (hn : n ≤ 10) (hnx : ∀ c, nx c < 2 ^ n) (hc0 : c0 < n) (L : hl_S 103 n nx sx) : ∀ (q c m m' : Nat) (s : hq_S), c + q = c0 → q < m → n < m' + c → cm_F n 0 nx s → (∀ c', c' < c → ¬ (nx c0).testBit c' = true) → ∃ v, f_X11_firstTurn_L2 N m (Int32.ofNat c0) (Int32.ofNat c) sx = some (v, sx) ∧ f_X12_flee_L60 N m' a1 (Int32.ofNat c0) (Int32.ofNat (tnx nx c0)) (-1) (-1) (Int32.ofNat c) s = some (v, s) := by
  have tl := tnx_lt hn hnx c0
  have nl := nb_1024 hn (hnx c0)
  have bitT : ∀ c, (tnx nx c0).testBit c = true ↔ ((nx c0).testBit c = true ∨ c0 = c) := fun c => by rw [tnx, if_pos (by omega), Nat.testBit_or, nb_2p, Bool.or_eq_true, decide_eq_true_iff]
  -- a step of the reference at a corner where he can go
  have hit : ∀ (c m' : Nat) (s : hq_S), c < n → n < m' + c → cm_F n 0 nx s → (tnx nx c0).testBit c = true → f_X12_flee_L60 N m' a1 (Int32.ofNat c0) (Int32.ofNat (tnx nx c0)) (-1) (-1) (Int32.ofNat c) s = some (Int32.ofNat c, s) := fun c m' s hc hm' F q1 => by
    obtain ⟨m', rfl⟩ : ∃ j, m' = j + 1 := ⟨m' - 1, by omega⟩
    have cc : Int32.ofNat c < Int32.ofNat n := (nn_lt (by omega) (by omega)).mpr (by omega)
    have m0 : ¬ ((Int32.ofNat (tnx nx c0) >>> (Int32.ofNat c &&& 31)) &&& (1 : Int32)) = 0 := by rw [nb_bit0 (by omega) (by omega), q1]; decide
    obtain ⟨va, va1, va2⟩ := isAt_all (N := N) (p := fun _ => 0) (c := c) hN (show 0 ≤ 3 by omega) (fun j hj => by omega) (by omega) F (fun j hj => by omega)
    have va0 : va = 0 := by
      rcases va2 with ⟨-, i, hi, -⟩ | ⟨h, -⟩
      · omega
      · exact h
    subst va0
    have ro : f_X12_roundsOf N (Int32.ofNat c) s = some (-1, s) := by
      obtain ⟨N', rfl⟩ : ∃ k, N = k + 1 := ⟨N - 1, by omega⟩
      unfold f_X12_roundsOf
      rw [f_X12_roundsOf_L2_s]
      unfold f_X12_roundsOf_L2_B
      have z1 : hq_gi s 174 60 = 0 := F.2.1
      rw [z1, if_neg (show ¬ (0 : Int32) < 0 by decide), if_pos rfl]
    rw [f_X12_flee_L60_s]
    unfold f_X12_flee_L60_B
    rw [cm_n F, Option.bind_some, if_pos cc, if_neg m0, va1, Option.bind_some, if_pos rfl, ro, Option.bind_some, Option.bind_some, if_pos rfl, Option.bind_some, if_pos (show (-1 : Int32) < 100000 by decide), Option.bind_some, nn_succ]
    exact fl_rest hN hn tl (n - (c + 1)) (c + 1) m' s (by omega) (by omega) F
  intro q
  induction q with
  | zero =>
    intro c m m' s hc hm hm' F no
    obtain ⟨m, rfl⟩ : ∃ j, m = j + 1 := ⟨m - 1, by omega⟩
    have hc : c = c0 := by omega
    subst hc
    have cc : ¬ Int32.ofNat c < Int32.ofNat c := by rw [nn_lt (by omega) (by omega)]; omega
    refine ⟨Int32.ofNat c, ?_, hit c m' s hc0 hm' F ((bitT c).mpr (Or.inr rfl))⟩
    rw [f_X11_firstTurn_L2_s]
    unfold f_X11_firstTurn_L2_B
    rw [if_neg cc]
  | succ q ih =>
    intro c m m' s hc hm hm' F no
    obtain ⟨m, rfl⟩ : ∃ j, m = j + 1 := ⟨m - 1, by omega⟩
    have cc : Int32.ofNat c < Int32.ofNat c0 := (nn_lt (by omega) (by omega)).mpr (by omega)
    have ld : hq_ld sx 104 10 (Int32.ofNat c0) = some (Int32.ofNat (nx c0)) := by
      have := L.2 c0 (by omega)
      rw [nn_ld (by omega) (by omega)]
      exact congrArg some this
    by_cases q1 : (nx c0).testBit c = true
    · have x1 : ((Int32.ofNat (nx c0) >>> (Int32.ofNat c &&& 31)) &&& (1 : Int32)) = 1 := by rw [nb_bit1 (by omega) (by omega)]; exact q1
      refine ⟨Int32.ofNat c, ?_, hit c m' s (by omega) hm' F ((bitT c).mpr (Or.inl q1))⟩
      rw [f_X11_firstTurn_L2_s]
      unfold f_X11_firstTurn_L2_B
      rw [if_pos cc, ld, Option.bind_some, if_pos x1]
    · have x1 : ¬ ((Int32.ofNat (nx c0) >>> (Int32.ofNat c &&& 31)) &&& (1 : Int32)) = 1 := by rw [nb_bit1 (by omega) (by omega)]; exact q1
      obtain ⟨m', rfl⟩ : ∃ j, m' = j + 1 := ⟨m' - 1, by omega⟩
      have c2 : Int32.ofNat c < Int32.ofNat n := (nn_lt (by omega) (by omega)).mpr (by omega)
      have m0 : ((Int32.ofNat (tnx nx c0) >>> (Int32.ofNat c &&& 31)) &&& (1 : Int32)) = 0 := by
        rw [nb_bit0 (by omega) (by omega)]
        cases z : (tnx nx c0).testBit c with
        | true => exact absurd ((bitT c).mp z) (fun w => w.elim q1 (by omega))
        | false => rfl
      obtain ⟨v, e1, e2⟩ := ih (c + 1) m m' s (by omega) (by omega) (by omega) F (fun c' hc' => by
        by_cases e : c' = c
        · rw [e]; exact q1
        · exact no c' (by omega))
      refine ⟨v, ?_, ?_⟩
      · rw [← e1, f_X11_firstTurn_L2_s]
        unfold f_X11_firstTurn_L2_B
        rw [if_pos cc, ld, Option.bind_some, if_neg x1, nn_succ]
      · rw [← e2, f_X12_flee_L60_s]
        unfold f_X12_flee_L60_B f_X12_flee_J133
        rw [cm_n F, Option.bind_some, if_pos c2, if_pos m0, nn_succ]
end
