/-! THE READER: text -/
section
variable {N L v ln pl : Nat} {sx sm : hq_S} {t : Nat → Nat}
theorem hgI_RD (h : RD t L v ln pl sx sm) : hgI sm := by
  obtain ⟨nc, nl, ng, nt, kn, T, p, q, a, b, h⟩ := h
  obtain ⟨⟨b1, b2, b3, b4⟩, ⟨-, c1, -, c2, -, c3, -, c4⟩, -⟩ := h.2.2.1
  simp only [sh_176] at c1 c2 c3 c4
  obtain ⟨-, -, ⟨k1, -, -, k2, -, -⟩, -, -⟩ := h.2.2.2.1
  intro j h1 h2 h3 h4
  rcases (show j = 7 ∨ j = 8 ∨ j = 9 ∨ j = 10 ∨ j = 13 by omega) with rfl | rfl | rfl | rfl | rfl
  · exact ⟨nc, by omega, c1⟩
  · exact ⟨nl, by omega, c2⟩
  · exact ⟨ng, by omega, c3⟩
  · exact ⟨nt, by omega, c4⟩
  · exact ⟨kn, by omega, k2⟩
theorem kX_kz {s s' : hq_S} (h : kz 49 FX s s') : kX v s s' := fun k i _ _ h3 _ => ⟨kz_ne h h3, kz_gj h _ _, kz_gr h _ _⟩
theorem kM_kz {s s' : hq_S} (h : kz 174 FM s s') : kM s s' := ⟨fun k i h1 h2 => kz_ne h (by omega), fun k i h1 h2 _ => kz_ne h (by omega), fun i hi => kz_no h (fun w => by
  have : ∀ i ∈ FM, i < 34 := by decide
  have := this i w
  omega)⟩
/-- the told text's lanes -/
theorem told_lanes {nc nl ng nt : Nat} (h : hr_told nc nl ng nt v sx sm) : ∃ fr to on : Nat → Nat, hl_X v nl nc fr to on sx ∧ hl_M nl nc fr to on sm := by
  obtain ⟨⟨b1, b2, b3, b4⟩, ⟨c1, c2, c3, c4, -⟩, -, -, h5, -⟩ := h
  refine ⟨fun k => (hq_gi sm 180 k).toNatClampNeg, fun k => (hq_gi sm 181 k).toNatClampNeg, fun k => (hq_gi sm 182 k).toNatClampNeg, ⟨b1, b2, c1, c3, fun k hk => ?_⟩, b1, b2, c2, c4, fun k hk => ?_⟩
  · obtain ⟨⟨x, x1, x2, x3⟩, ⟨y, y1, y2, y3⟩, -, h4, h6⟩ := h5 k hk
    dsimp only
    rw [x3, y3, nn_clamp (j := x) (by omega), nn_clamp (j := y) (by omega), nn_m31 (by omega), h4]
    rcases h6 with e | e <;> rw [e]
    · exact ⟨x1, y1, x2, y2, by decide, by decide⟩
    · exact ⟨x1, y1, x2, y2, by decide, by decide⟩
  · obtain ⟨⟨x, x1, x2, x3⟩, ⟨y, y1, y2, y3⟩, -, h4, h6⟩ := h5 k hk
    dsimp only
    rw [x3, y3, nn_clamp (j := x) (by omega), nn_clamp (j := y) (by omega)]
    rcases h6 with e | e <;> rw [e]
    · exact ⟨x1, y1, rfl, rfl, by decide, by decide⟩
    · exact ⟨x1, y1, rfl, rfl, by decide, by decide⟩
/-- a text told, and the night begun by it: the relation -/
theorem tx_fin {HC : hq_S → Prop} {nc nl ng nt w : Nat} (hN : 1000 < N) (hv : v = 2 ∨ v = 25) (hw : w = 27 - v) (To : hr_told nc nl ng nt v sx (sh sm)) (g2 : hq_gr sx 0 2 = w) (g3 : hq_gr sx 0 3 = v) (f7 : hq_gi sx 48 7 = 0) (f8 : hq_gi sx 48 8 = -1) (m8 : hq_gi sm 174 28 = 0) (m9 : hq_gi sm 174 29 = -1) (lx : hq_gi sx 48 9 = hq_gi sm 174 22) (x1 : hq_gi sx 0 1 = 0) (m2 : hq_gi sm 174 2 = 0) (K : ∀ i, i < 22 → hq_gi sx 50 i = hq_gi hq_s0 50 i) (H : ∀ s, (∀ c i, 152 ≤ c → c ≤ 158 → hq_gi s c i = hq_gi sx c i) → HC s) (Id : hr_idle sm) {b1 b2 : Int32} :
    ∃ sx' sm', (if hq_isT (hq_gr sx 0 3) then if hq_isT (hq_gr sx 0 2) then (hq_pr sx 0 3 (hq_gr sx 0 2)).bind fun s9 => (hq_pr s9 0 2 (hq_gr sx 0 3)).bind fun s10 => if hq_isT (hq_gr s10 0 2) then (f_X5_copyFrom N 76 ((hq_gr s10 0 2) + 14) s10).bind fun s12 => if hq_isT (hq_gr s12 0 2) then (f_X8_build N 103 (hq_gr s12 0 2) (0 : Int32) (0 : Int32) s12).bind fun s14 => (f_X2_clear N s14).bind fun s15 => (f_X1_clear N s15).bind fun s16 => (hq_pi s16 0 7 1 (0 : Int32)).bind fun s17 => some ((hq_gi s17 48 9), s17) else none else none else none else none) = some (hq_gi sx 48 9, sx') ∧ f_X12_text_J149 N b1 b2 sm = some (hq_gi sx 48 9, sm') ∧ hR HC sx' sm' := by
  have pr : ∀ {s : hq_S} {k b x : Nat}, hq_pr s k b x = some (hq_sr s k b x) := fun {s k b x} => rfl
  have hTv : hq_isT v := hv
  have hTw : hq_isT w := by rcases hv with e | e <;> rw [hw, e] <;> decide
  -- the reference
  obtain ⟨sh', eh, ⟨hh1, hh2, hh3⟩⟩ := halves (N := N) hN (hq_si (hq_si sm 174 30 0) 174 31 (-1))
  have T1 : hr_told nc nl ng nt v sx sh' := told_lo (sm := sh sm) To (fun _ _ _ _ => rfl) (fun _ _ _ _ => rfl) (fun k i k1 k2 k3 => by
    rw [hh1 k i k1 (by omega) k3, nn_n (by omega), nn_n (by omega)]; rfl)
  have b := T1.1
  obtain ⟨fr, to, on, X1, M1⟩ := told_lanes T1
  have z176 : hq_gi (hq_si (hq_si (hq_si (hq_si sh' 174 74 0) 174 75 (-1)) 174 47 0) 174 48 0) 176 0 = Int32.ofNat nc := by rw [nn_n (by omega), nn_n (by omega), nn_n (by omega), nn_n (by omega)]; exact T1.2.1.2.1
  obtain ⟨sm', e2, ⟨s6, s7, s8⟩, s9, s0, s3, em, O⟩ := st_all (N := N) (l := 0) (s := hq_si (hq_si (hq_si (hq_si sh' 174 74 0) 174 75 (-1)) 174 47 0) 174 48 0) (by omega) (by omega) b.1 z176
  have e2 : f_X12_starts N 0 (hq_si (hq_si (hq_si (hq_si sh' 174 74 0) 174 75 (-1)) 174 47 0) 174 48 0) = some sm' := e2
  have em' : ∀ c i, 175 ≤ c → c < 196 ∨ 205 < c → hq_gi sm' c i = hq_gi sh' c i := fun c i c1 c2 => by rw [em c i c2, nn_n (by omega), nn_n (by omega), nn_n (by omega), nn_n (by omega)]
  have e4 : ∀ i, ¬ i = 74 → ¬ i = 75 → ¬ i = 47 → ¬ i = 48 → hq_gi sm' 174 i = hq_gi sh' 174 i := fun i i1 i2 i3 i4 => by rw [em 174 i (by omega), nn_n (by omega), nn_n (by omega), nn_n (by omega), nn_n (by omega)]
  have h4 : ∀ i, ¬ i = 30 → ¬ i = 31 → hq_gi sh' 174 i = hq_gi sm 174 i := fun i i1 i2 => by rw [hh2 174 i (by omega), nn_n (by omega), nn_n (by omega)]
  have ed : ∀ {c j}, (175 ≤ c → c < 196 ∨ 205 < c → hq_gi (hq_si (hq_si (hq_si (hq_si sh' 174 74 0) 174 75 (-1)) 174 47 0) 174 48 0) c j = hq_gi sh' c j) := fun {c j} c1 _ => by rw [nn_n (by omega), nn_n (by omega), nn_n (by omega), nn_n (by omega)]
  have rM : f_X12_text_J149 N b1 b2 sm = some (hq_gi sx 48 9, sm') := by
    unfold f_X12_text_J149
    rw [m8, nn_pi]
    simp only [ob]
    rw [nn_n (by omega), m9, nn_pi]
    simp only [ob]
    rw [if_pos (show hq_gi (hq_si (hq_si sm 174 30 0) 174 31 (-1)) 174 28 = 0 from by rw [nn_n (by omega), nn_n (by omega)]; exact m8), eh]
    unfold f_X12_begins
    have p1 : ∀ {s : hq_S} {k b : Nat}, hq_pi s k b 1 0 = some (hq_si s k b 0) := fun {s k b} => rfl
    simp only [nn_pi, ob, p1, e2]
    rw [e4 22 (by omega) (by omega) (by omega) (by omega), h4 22 (by omega) (by omega), lx]
  -- the class
  have q2 : hq_gr (hq_sr (hq_sr sx 0 3 w) 0 2 v) 0 2 = v := by rw [nb_rr, if_pos ⟨rfl, rfl⟩]
  obtain ⟨s12, c1, k1⟩ := hk_copyFrom (N := N) (a := 76) (b := v + 14) (by omega) (hq_sr (hq_sr sx 0 3 w) 0 2 v)
  obtain ⟨kx, kj, kr, k0, k2, kl, kc, kg, kt⟩ := k1
  have g12 : hq_gr s12 0 2 = v := by rw [kr]; exact q2
  have kx' : ∀ c i, (c < 76 ∨ 84 < c) → hq_gi s12 c i = hq_gi sx c i := fun c i hc => (kx c i (by omega)).trans (by rw [nb_ri, nb_ri])
  have X2 : hl_X v nl nc fr to on s12 := by
    obtain ⟨y1, y2, y3, y4, y5⟩ := X1
    refine ⟨y1, y2, ?_, ?_, fun k hk => ?_⟩
    · rw [kx' _ _ (by omega)]; exact y3
    · rw [kx' _ _ (by omega)]; exact y4
    · rw [kx' (v + 3) _ (by omega), kx' (v + 4) _ (by omega), kx' v _ (by omega)]; exact y5 k hk
  obtain ⟨g, f, c2, c3, c4⟩ := hb_build (N := N) (u := 103) (bar := 0) (both := false) (a3 := 0) (Or.inl rfl) hv (by omega) rfl (by omega) X2
  have c2 : f_X8_build N 103 v 0 0 s12 = some (hq_w (hq_w (hq_si s12 103 0 (Int32.ofNat nc)) 104 g) 105 f) := c2
  refine ⟨hq_si (hq_si (hq_si (hq_si (hq_w (hq_w (hq_si s12 103 0 (Int32.ofNat nc)) 104 g) 105 f) 163 0 0) 163 1 (-1)) 170 0 0) 0 7 0, sm', ?_, rM, ?_⟩
  · rw [g3, g2, if_pos hTv, if_pos hTw, pr]
    simp only [ob]
    rw [pr]
    simp only [ob]
    rw [q2, if_pos hTv, c1]
    simp only [ob]
    rw [g12, if_pos hTv, c2]
    unfold f_X2_clear f_X1_clear
    have p1 : ∀ {s : hq_S} {k b : Nat}, hq_pi s k b 1 0 = some (hq_si s k b 0) := fun {s k b} => rfl
    simp only [nn_pi, ob, p1]
    refine congrArg some (Prod.ext ?_ rfl)
    show hq_gi (hq_si (hq_si (hq_si (hq_si (hq_w (hq_w (hq_si s12 103 0 (Int32.ofNat nc)) 104 g) 105 f) 163 0 0) 163 1 (-1)) 170 0 0) 0 7 0) 48 9 = hq_gi sx 48 9
    rw [nn_n (by omega), nn_n (by omega), nn_n (by omega), nn_n (by omega), w9_n (by omega), w9_n (by omega), nn_n (by omega), kx' _ _ (by omega)]
  · have ox : ∀ c i, ¬ (c = 0 ∧ i = 7) → ¬ (c = 170 ∧ i = 0) → ¬ (c = 163 ∧ i < 2) → ¬ c = 103 → ¬ c = 104 → ¬ c = 105 → hq_gi (hq_si (hq_si (hq_si (hq_si (hq_w (hq_w (hq_si s12 103 0 (Int32.ofNat nc)) 104 g) 105 f) 163 0 0) 163 1 (-1)) 170 0 0) 0 7 0) c i = hq_gi s12 c i := fun c i n1 n2 n3 n4 n5 n6 => by
      rw [nn_n n1, nn_n n2, nn_n (by omega), nn_n (by omega), w9_n n6, w9_n n5, nn_n (by omega)]
    have oj : ∀ c i, hq_gj (hq_si (hq_si (hq_si (hq_si (hq_w (hq_w (hq_si s12 103 0 (Int32.ofNat nc)) 104 g) 105 f) 163 0 0) 163 1 (-1)) 170 0 0) 0 7 0) c i = hq_gj s12 c i := fun _ _ => rfl
    have orr : ∀ c i, hq_gr (hq_si (hq_si (hq_si (hq_si (hq_w (hq_w (hq_si s12 103 0 (Int32.ofNat nc)) 104 g) 105 f) 163 0 0) 163 1 (-1)) 170 0 0) 0 7 0) c i = hq_gr s12 c i := fun _ _ => rfl
    have o103 : hq_gi (hq_si (hq_si (hq_si (hq_si (hq_w (hq_w (hq_si s12 103 0 (Int32.ofNat nc)) 104 g) 105 f) 163 0 0) 163 1 (-1)) 170 0 0) 0 7 0) 103 0 = Int32.ofNat nc := by
      rw [nn_n (by omega), nn_n (by omega), nn_n (by omega), nn_n (by omega), w9_n (by omega), w9_n (by omega), nn_g1]
    have o104 : ∀ i, hq_gi (hq_si (hq_si (hq_si (hq_si (hq_w (hq_w (hq_si s12 103 0 (Int32.ofNat nc)) 104 g) 105 f) 163 0 0) 163 1 (-1)) 170 0 0) 0 7 0) 104 i = g i := fun i => by
      rw [nn_n (by omega), nn_n (by omega), nn_n (by omega), nn_n (by omega), w9_n (by omega), w9_g]
    have o105 : ∀ i, hq_gi (hq_si (hq_si (hq_si (hq_si (hq_w (hq_w (hq_si s12 103 0 (Int32.ofNat nc)) 104 g) 105 f) 163 0 0) 163 1 (-1)) 170 0 0) 0 7 0) 105 i = f i := fun i => by
      rw [nn_n (by omega), nn_n (by omega), nn_n (by omega), nn_n (by omega), w9_g]
    have o163 : hq_gi (hq_si (hq_si (hq_si (hq_si (hq_w (hq_w (hq_si s12 103 0 (Int32.ofNat nc)) 104 g) 105 f) 163 0 0) 163 1 (-1)) 170 0 0) 0 7 0) 163 0 = 0 ∧ hq_gi (hq_si (hq_si (hq_si (hq_si (hq_w (hq_w (hq_si s12 103 0 (Int32.ofNat nc)) 104 g) 105 f) 163 0 0) 163 1 (-1)) 170 0 0) 0 7 0) 163 1 = -1 := by
      constructor
      · rw [nn_n (by omega), nn_n (by omega), nn_n (by omega), nn_g1]
      · rw [nn_n (by omega), nn_n (by omega), nn_g1]
    have o170 : hq_gi (hq_si (hq_si (hq_si (hq_si (hq_w (hq_w (hq_si s12 103 0 (Int32.ofNat nc)) 104 g) 105 f) 163 0 0) 163 1 (-1)) 170 0 0) 0 7 0) 170 0 = 0 := by rw [nn_n (by omega), nn_g1]
    have o07 : hq_gi (hq_si (hq_si (hq_si (hq_si (hq_w (hq_w (hq_si s12 103 0 (Int32.ofNat nc)) 104 g) 105 f) 163 0 0) 163 1 (-1)) 170 0 0) 0 7 0) 0 7 = 0 := nn_g1
    generalize hq_si (hq_si (hq_si (hq_si (hq_w (hq_w (hq_si s12 103 0 (Int32.ofNat nc)) 104 g) 105 f) 163 0 0) 163 1 (-1)) 170 0 0) 0 7 0 = z at ox oj orr o103 o104 o105 o163 o170 o07 ⊢
    have xx : ∀ c i, ¬ (c = 0 ∧ i = 7) → c < 76 ∨ (84 < c ∧ c < 103) ∨ (105 < c ∧ c < 163) → hq_gi z c i = hq_gi sx c i := fun c i n1 n2 => (ox c i n1 (by omega) (by omega) (by omega) (by omega) (by omega)).trans (kx' c i (by omega))
    have xn : ∀ c i, 76 ≤ c → c ≤ 84 → hq_gi z c i = hq_gi s12 c i := fun c i n1 n2 => ox c i (by omega) (by omega) (by omega) (by omega) (by omega) (by omega)
    have Id' : hr_idle sm' := by
      unfold hr_idle at Id ⊢
      rw [e4 49 (by omega) (by omega) (by omega) (by omega), h4 49 (by omega) (by omega), e4 50 (by omega) (by omega) (by omega) (by omega), h4 50 (by omega) (by omega), e4 53 (by omega) (by omega) (by omega) (by omega), h4 53 (by omega) (by omega)]
      have e212 : ∀ i, hq_gi sm' 212 i = hq_gi sm 212 i := fun i => by rw [em' 212 i (by omega) (by omega), hh2 212 i (by omega), nn_n (by omega), nn_n (by omega)]
      rw [e212, e212, e212, e212, e212]
      exact Id
    have T2 : hr_told nc nl ng nt v z sm' := told_lo T1 (fun c i n1 n2 => xx c i (by omega) (by omega)) (fun c i n1 n2 => (oj c i).trans ((kj c i (by omega)).trans rfl)) (fun c i n1 n2 _ => em' c i (by omega) (by omega))
    refine ⟨⟨0, by omega, ?_, ?_, fun i hi => by omega⟩, ⟨?_, ?_⟩, Id', fun i hi => ?_, H z (fun c i n1 n2 => xx c i (by omega) (by omega)), nc, nl, ng, nt, v, 0, fr, to, on, ⟨?_, hv, ?_⟩, T2, ⟨?_, ?_, ⟨o103, fun c hc => ?_⟩, fun a b ha hb => ?_, ?_, by omega⟩, ?_, ⟨0, by omega, o163.1, ?_, Or.inl ⟨o163.2, ?_⟩, fun i hi => by omega⟩, Or.inl ⟨o07, ?_⟩, ⟨0, by omega, o170, ?_, fun j hj => by omega⟩⟩
    · rw [xx _ _ (by omega) (by omega)]; exact x1
    · rw [e4 2 (by omega) (by omega) (by omega) (by omega), h4 2 (by omega) (by omega)]; exact m2
    · rw [xx _ _ (by omega) (by omega), f7, e4 30 (by omega) (by omega) (by omega) (by omega), hh2 174 30 (by omega), nn_n (by omega), nn_g1]
    · rw [xx _ _ (by omega) (by omega), f8, e4 31 (by omega) (by omega) (by omega) (by omega), hh2 174 31 (by omega), nn_g1]
    · rw [xx _ _ (by omega) (by omega)]; exact K i hi
    · rw [orr]; exact g12
    · rw [orr, kr, nb_rr, if_neg (by omega), nb_rr, if_pos ⟨rfl, rfl⟩]; exact hw
    · obtain ⟨y1, y2, y3, y4, y5⟩ := X1
      refine ⟨y1, y2, ?_, ?_, fun k hk => ?_⟩
      · rw [xx _ _ (by omega) (by omega)]; exact y3
      · rw [xx _ _ (by omega) (by omega)]; exact y4
      · rw [xx (v + 3) _ (by omega) (by omega), xx (v + 4) _ (by omega) (by omega), xx v _ (by omega) (by omega)]; exact y5 k hk
    · obtain ⟨y1, y2, y3, y4, y5⟩ := M1
      refine ⟨y1, y2, ?_, ?_, fun k hk => ?_⟩
      · rw [em' _ _ (by omega) (by omega)]; exact y3
      · rw [em' _ _ (by omega) (by omega)]; exact y4
      · rw [em' _ _ (by omega) (by omega), em' _ _ (by omega) (by omega), em' _ _ (by omega) (by omega)]; exact y5 k hk
    · rw [show 103 + 1 = 104 from rfl, o104]; exact c3 c hc
    · rw [o105]; exact c4 a b ha hb
    · rw [s8]; rfl
    · obtain ⟨⟨b1, b2, b3, b4⟩, -, cr, cz, -, gd, th, -, ⟨d, hd, sd1, sd2⟩, ⟨z0, z2, z3, z4⟩, -⟩ := T1
      have rr : ∀ c i, hq_gi (hq_sr (hq_sr sx 0 3 w) 0 2 v) c i = hq_gi sx c i := fun _ _ => rfl
      refine ⟨?_, ⟨d, by omega, ?_, ?_⟩, ⟨0, by omega, ?_, ?_⟩, fun j hj => ?_, fun j h1 h2 => ?_, fun j hj => ⟨?_, ⟨0, by omega, Or.inl rfl, ?_, ?_⟩, ?_⟩, fun j hj => ⟨?_, ?_, ?_, Or.inl ⟨?_, ?_⟩⟩, fun j h1 h2 => (s3 j h2).2.1⟩
      · rw [xn _ _ (by omega) (by omega), k0, rr, z0, s6]
      · rw [oj, kl]; exact sd1
      · rw [s7, ed (by omega) (by omega)]; exact sd2
      · rw [xn _ _ (by omega) (by omega), k2, rr]; exact z2
      · rw [s8]; rfl
      · obtain ⟨x, x1, x2, x3⟩ := (cr j hj).2.2
        refine ⟨x, by omega, ?_, ?_⟩
        · rw [xn _ _ (by omega) (by omega), kc j (by omega), rr]; exact x2
        · rw [s9 j (by omega), if_pos hj, ed (by omega) (by omega)]; exact x3
      · rw [s9 j h2, if_neg (by omega)]
      · obtain ⟨x, x1, x2, x3⟩ := (gd j hj).2.1
        refine ⟨x, x1, ?_, ?_⟩
        · rw [xn _ _ (by omega) (by omega), (kg j (by omega)).1, rr]; exact x2
        · rw [(s0 j (by omega)).1, ed (by omega) (by omega)]; exact x3
      · rw [xn _ _ (by omega) (by omega), (kg j (by omega)).2.1, rr]; exact (z3 j (by omega)).1
      · rw [(s0 j (by omega)).2.1]; rfl
      · rw [xn _ _ (by omega) (by omega), (kg j (by omega)).2.2, rr, (s0 j (by omega)).2.2]; exact (z3 j (by omega)).2
      · obtain ⟨x, x1, x2, x3⟩ := (th j hj).2.1
        refine ⟨x, x1, ?_, ?_⟩
        · rw [xn _ _ (by omega) (by omega), (kt j (by omega)).1, rr]; exact x2
        · rw [(s3 j (by omega)).1, ed (by omega) (by omega)]; exact x3
      · obtain ⟨x, x1, x2, x3⟩ := (th j hj).2.2
        refine ⟨x, x1, ?_, ?_⟩
        · rw [xn _ _ (by omega) (by omega), (kt j (by omega)).2.1, rr]; exact x2
        · rw [hn_bold_i Id' (by omega), em' 189 j (by omega) (by omega)]; exact x3
      · rw [xn _ _ (by omega) (by omega), (kt j (by omega)).2.2.1, rr, (s3 j (by omega)).2.1]; exact (z4 j (by omega)).1
      · rw [xn _ _ (by omega) (by omega), (kt j (by omega)).2.2.2, rr]; exact (z4 j (by omega)).2
      · rw [(s3 j (by omega)).2.2]
    · rw [em 174 74 (by omega), nn_n (by omega), nn_n (by omega), nn_n (by omega), nn_g1]; rfl
    · rw [em 174 75 (by omega), nn_n (by omega), nn_n (by omega), nn_g1]
    · rw [em 174 47 (by omega), nn_n (by omega), nn_g1]
    · rw [em 174 48 (by omega), nn_g1]; rfl
end
