/-! CORNER: both alike, or both refuse -/
section
variable {N nc nl ng nt t : Nat} {sx sm : hq_S}
theorem cn_g (t1 : hq_gr sx 0 2 = t) (t2 : t = 2 ∨ t = 25) (T : hr_told nc nl ng nt t sx sm) (W : hn_N nc ng nt 76 0 sx sm) {a1 : Int32} : ∀ (r j m m' : Nat) (acc : Int32), j + r = ng → r < m → r < m' → ∃ v, f_X11_guardsAt_L4 N m a1 acc (Int32.ofNat j) sx = some (v, sx) ∧ f_X12_guardsAt_L5 N m' 0 a1 acc (Int32.ofNat j) sm = some (v, sm) := by
  obtain ⟨⟨hnc, -, hng, -⟩, ⟨-, -, -, -, g1, g2, -⟩, -⟩ := T
  have hT : hq_isT t := t2
  have l2 : hq_ld sm 176 14 2 = some (Int32.ofNat ng) := by rw [show (2 : Int32) = Int32.ofNat 2 from rfl, nn_ld (by omega) (by omega), g2]
  intro r
  induction r with
  | zero =>
    intro j m m' acc hj hm hm'
    obtain ⟨m, rfl⟩ : ∃ k, m = k + 1 := ⟨m - 1, by omega⟩
    obtain ⟨m', rfl⟩ : ∃ k, m' = k + 1 := ⟨m' - 1, by omega⟩
    refine ⟨acc, ?_, ?_⟩
    · rw [f_X11_guardsAt_L4_s]
      unfold f_X11_guardsAt_L4_B
      rw [t1, if_pos hT, g1, ie (nb_ltp (by omega) (by omega)), if_neg (show ¬ j < ng by omega)]
    · rw [f_X12_guardsAt_L5_s]
      unfold f_X12_guardsAt_L5_B
      rw [l2]
      simp only [ob]
      rw [ie (nb_ltp (by omega) (by omega)), if_neg (show ¬ j < ng by omega)]
  | succ r ih =>
    intro j m m' acc hj hm hm'
    obtain ⟨m, rfl⟩ : ∃ k, m = k + 1 := ⟨m - 1, by omega⟩
    obtain ⟨m', rfl⟩ : ∃ k, m' = k + 1 := ⟨m' - 1, by omega⟩
    obtain ⟨p, p1, p2, p3⟩ := (W.2.2.2.2.2.1 j (by omega)).1
    rw [show 3 * 0 + j = j by omega] at p3
    have p2 : hq_gi sx 78 j = Int32.ofNat p := p2
    have ix : (3 : Int32) * 0 + Int32.ofNat j = Int32.ofNat j := by rw [show (3 : Int32) * 0 = Int32.ofNat 0 from by decide, nb_add, Nat.zero_add]
    by_cases c : Int32.ofNat p = a1
    · obtain ⟨v, v1, v2⟩ := ih (j + 1) m m' (acc ||| ((1 : Int32) <<< (Int32.ofNat j &&& 31))) (by omega) (by omega) (by omega)
      refine ⟨v, ?_, ?_⟩
      · rw [f_X11_guardsAt_L4_s]
        unfold f_X11_guardsAt_L4_B
        rw [t1, if_pos hT, g1, ie (nb_ltp (by omega) (by omega)), if_pos (show j < ng by omega), nn_ld (by omega) (by omega), p2]
        simp only [ob]
        rw [if_pos c]
        simp only [ob]
        rw [nn_succ]
        exact v1
      · rw [f_X12_guardsAt_L5_s]
        unfold f_X12_guardsAt_L5_B
        rw [l2]
        simp only [ob]
        rw [ie (nb_ltp (by omega) (by omega)), if_pos (show j < ng by omega), ix, nn_ld (by omega) (by omega), p3]
        simp only [ob]
        rw [if_pos c]
        simp only [ob]
        rw [nn_succ]
        exact v2
    · obtain ⟨v, v1, v2⟩ := ih (j + 1) m m' (acc ||| 0) (by omega) (by omega) (by omega)
      refine ⟨v, ?_, ?_⟩
      · rw [f_X11_guardsAt_L4_s]
        unfold f_X11_guardsAt_L4_B
        rw [t1, if_pos hT, g1, ie (nb_ltp (by omega) (by omega)), if_pos (show j < ng by omega), nn_ld (by omega) (by omega), p2]
        simp only [ob]
        rw [if_neg c]
        simp only [ob]
        rw [nn_succ]
        exact v1
      · rw [f_X12_guardsAt_L5_s]
        unfold f_X12_guardsAt_L5_B
        rw [l2]
        simp only [ob]
        rw [ie (nb_ltp (by omega) (by omega)), if_pos (show j < ng by omega), ix, nn_ld (by omega) (by omega), p3]
        simp only [ob]
        rw [if_neg c]
        simp only [ob]
        rw [nn_succ]
        exact v2
theorem cn_t (t1 : hq_gr sx 0 2 = t) (t2 : t = 2 ∨ t = 25) (T : hr_told nc nl ng nt t sx sm) (W : hn_N nc ng nt 76 0 sx sm) {a1 : Int32} : ∀ (r j m m' : Nat) (acc : Int32), j + r = nt → r < m → r < m' → ∃ v, f_X11_thievesAt_L4 N m a1 acc (Int32.ofNat j) sx = some (v, sx) ∧ f_X12_thievesAt_L4 N m' a1 acc (Int32.ofNat j) sm = some (v, sm) := by
  obtain ⟨⟨hnc, -, hng, hnt⟩, ⟨-, -, -, -, -, -, g1, g2⟩, -⟩ := T
  have hT : hq_isT t := t2
  have l2 : hq_ld sm 176 14 3 = some (Int32.ofNat nt) := by rw [show (3 : Int32) = Int32.ofNat 3 from rfl, nn_ld (by omega) (by omega), g2]
  intro r
  induction r with
  | zero =>
    intro j m m' acc hj hm hm'
    obtain ⟨m, rfl⟩ : ∃ k, m = k + 1 := ⟨m - 1, by omega⟩
    obtain ⟨m', rfl⟩ : ∃ k, m' = k + 1 := ⟨m' - 1, by omega⟩
    refine ⟨acc, ?_, ?_⟩
    · rw [f_X11_thievesAt_L4_s]
      unfold f_X11_thievesAt_L4_B
      rw [t1, if_pos hT, g1, ie (nb_ltp (by omega) (by omega)), if_neg (show ¬ j < nt by omega)]
    · rw [f_X12_thievesAt_L4_s]
      unfold f_X12_thievesAt_L4_B
      rw [l2]
      simp only [ob]
      rw [ie (nb_ltp (by omega) (by omega)), if_neg (show ¬ j < nt by omega)]
  | succ r ih =>
    intro j m m' acc hj hm hm'
    obtain ⟨m, rfl⟩ : ∃ k, m = k + 1 := ⟨m - 1, by omega⟩
    obtain ⟨m', rfl⟩ : ∃ k, m' = k + 1 := ⟨m' - 1, by omega⟩
    obtain ⟨⟨p, p1, p2, p3⟩, -, -, fr⟩ := W.2.2.2.2.2.2.1 j (by omega)
    rw [show 4 * 0 + j = j by omega] at p3 fr
    have p2 : hq_gi sx 81 j = Int32.ofNat p := p2
    have fr : (hq_gi sx 84 j = -2 ∧ hq_gi sm 205 j = -1) ∨ hr_lt ng (hq_gi sx 84 j) (hq_gi sm 205 j) := fr
    have ix : (4 : Int32) * 0 + Int32.ofNat j = Int32.ofNat j := by rw [show (4 : Int32) * 0 = Int32.ofNat 0 from by decide, nb_add, Nat.zero_add]
    have iN : hq_isN 76 := by decide
    have fX : ∃ b : Int32, f_X5_isFree N 76 (Int32.ofNat j) sx = some (b, sx) ∧ f_X12_isFree N 0 (Int32.ofNat j) sm = some (b, sm) := by
      unfold f_X5_isFree f_X12_isFree
      rw [show 76 + 8 = 84 from rfl, nn_ld (by omega) (by omega), ix, nn_ld (by omega) (by omega)]
      simp only [ob]
      rcases fr with ⟨f1, f2⟩ | ⟨w, w1, w2, w3⟩
      · rw [f1, f2, if_pos rfl, if_pos rfl]
        exact ⟨1, rfl, rfl⟩
      · rw [w2, w3, if_neg, if_neg (nn_nm1 (by omega))]
        · exact ⟨0, rfl, rfl⟩
        · intro q
          have q1 : (Int32.ofNat w).toInt = (-2 : Int32).toInt := by rw [q]
          rw [nn_toInt (by omega), show (-2 : Int32).toInt = -2 from rfl] at q1
          omega
    obtain ⟨b, b1, b2⟩ := fX
    have z : ∃ z : Int32, ((if b = 0 then some (0 : Int32) else (hq_ld sx 81 4 (Int32.ofNat j)).bind fun x6 => if x6 = a1 then some ((1 : Int32) <<< (Int32.ofNat j &&& 31)) else some (0 : Int32)) = some z) ∧ ((if b = 0 then some (0 : Int32) else (hq_ld sm 203 92 (Int32.ofNat j)).bind fun x6 => if x6 = a1 then some ((1 : Int32) <<< (Int32.ofNat j &&& 31)) else some (0 : Int32)) = some z) := by
      by_cases c : b = 0
      · rw [if_pos c, if_pos c]; exact ⟨0, rfl, rfl⟩
      · rw [if_neg c, if_neg c, nn_ld (by omega) (by omega), nn_ld (by omega) (by omega), p2, p3]
        simp only [ob]
        by_cases c : Int32.ofNat p = a1
        · rw [if_pos c]; exact ⟨_, rfl, rfl⟩
        · rw [if_neg c]; exact ⟨_, rfl, rfl⟩
    obtain ⟨z, z1, z2⟩ := z
    obtain ⟨v, v1, v2⟩ := ih (j + 1) m m' (acc ||| z) (by omega) (by omega) (by omega)
    refine ⟨v, ?_, ?_⟩
    · rw [f_X11_thievesAt_L4_s]
      unfold f_X11_thievesAt_L4_B
      rw [t1, if_pos hT, g1, ie (nb_ltp (by omega) (by omega)), if_pos (show j < nt by omega), b1]
      simp only [ob]
      rw [z1]
      simp only [ob]
      rw [nn_succ]
      exact v1
    · rw [f_X12_thievesAt_L4_s]
      unfold f_X12_thievesAt_L4_B
      rw [l2]
      simp only [ob]
      rw [ie (nb_ltp (by omega) (by omega)), if_pos (show j < nt by omega), b2]
      simp only [ob]
      rw [z2]
      simp only [ob]
      rw [nn_succ]
      exact v2
end
theorem hRc {N : Nat} {HC : hq_S → Prop} {sx sm : hq_S} {a1 a2 : Int32} {y : Int32 × hq_S} (hc : hc_loc HC) (R : hR HC sx sm) (e : f_X12_corner N a1 a2 sm = some y) : hR HC sx y.2 := hR_k hc (fun _ _ _ => ⟨rfl, rfl, rfl⟩) ((f_X12_corner_fw e).kp (by decide)) (hm_o_fc (by decide) (f_X12_corner_fw e)) R
theorem cn_sim {N : Nat} {HC : hq_S → Prop} {sx sm : hq_S} (hc : hc_loc HC) (hN : 300 < N) (a1 a2 : Int32) (R : hR HC sx sm) : ∃ sm', hR HC sx sm' ∧ ((∃ v, f_X11_corner N a1 a2 sx = some (v, sx) ∧ f_X12_corner N a1 a2 sm = some (v, sm') ∧ hq_gi sm' 174 0 = 0) ∨ (f_X12_corner N a1 a2 sm = some (0, sm') ∧ ((f_X11_isCorner N a1 sx = some (0, sx) ∧ hq_gi sm' 174 0 = 1) ∨ (f_X11_isCorner N a1 sx = some (1, sx) ∧ (¬ a2 = 0 ∧ ¬ a2 = 1 ∧ ¬ a2 = 2 ∧ ¬ a2 = 3 ∧ ¬ a2 = 4) ∧ hq_gi sm' 174 0 = 2)))) := by
  obtain ⟨-, -, Id, -, -, nc, nl, ng, nt, t, bar, fr, to, on, ⟨t1, t2, t3⟩, T, ⟨X, M, S, F, B, Bl⟩, W, -⟩ := id R
  have hT : hq_isT t := t2
  have b := T.1
  have x0 : hq_gi sx t 0 = Int32.ofNat nc := T.2.1.1
  have m0 : hq_ld sm 176 14 0 = some (Int32.ofNat nc) := by rw [show (0 : Int32) = Int32.ofNat 0 from rfl, nn_ld (by omega) (by omega)]; exact congrArg some T.2.1.2.1
  have iX : f_X11_isCorner N a1 sx = if a1 < 0 then some (0, sx) else if a1 < Int32.ofNat nc then some (1, sx) else some (0, sx) := by
    unfold f_X11_isCorner
    rw [t1, if_pos hT, x0]
  have iM : f_X12_isCorner N a1 sm = if a1 < 0 then some (0, sm) else if a1 < Int32.ofNat nc then some (1, sm) else some (0, sm) := by
    unfold f_X12_isCorner
    rw [m0]
    rfl
  have bad1 : f_X11_isCorner N a1 sx = some (0, sx) → f_X12_isCorner N a1 sm = some (0, sm) → ∃ sm', hR HC sx sm' ∧ ((∃ v, f_X11_corner N a1 a2 sx = some (v, sx) ∧ f_X12_corner N a1 a2 sm = some (v, sm') ∧ hq_gi sm' 174 0 = 0) ∨ (f_X12_corner N a1 a2 sm = some (0, sm') ∧ ((f_X11_isCorner N a1 sx = some (0, sx) ∧ hq_gi sm' 174 0 = 1) ∨ (f_X11_isCorner N a1 sx = some (1, sx) ∧ (¬ a2 = 0 ∧ ¬ a2 = 1 ∧ ¬ a2 = 2 ∧ ¬ a2 = 3 ∧ ¬ a2 = 4) ∧ hq_gi sm' 174 0 = 2)))) := fun e1 e2 => by
    have e : f_X12_corner N a1 a2 sm = some (0, hq_si sm 174 0 1) := by
      unfold f_X12_corner
      rw [e2]
      simp only [ob]
      rw [if_pos trivial]
      simp only [ob]
      rw [nn_pi]
      simp only [ob]
      rw [nn_g1, if_neg (by decide)]
    exact ⟨_, hRc hc R e, Or.inr ⟨e, Or.inl ⟨e1, nn_g1⟩⟩⟩
  by_cases c0 : a1 < 0
  · rw [if_pos c0] at iX iM
    exact bad1 iX iM
  rw [if_neg c0] at iX iM
  by_cases c1 : a1 < Int32.ofNat nc
  · rw [if_pos c1] at iX iM
    obtain ⟨c, l1, l2⟩ := nn_of (x := a1) (by
      rw [Int32.lt_iff_toInt_lt] at c0
      have : (0 : Int32).toInt = 0 := rfl
      omega)
    subst l2
    have hcn : c < nc := (nn_lt (by omega) (by omega)).mp c1
    clear bad1
    by_cases w : ¬ a2 = 0 ∧ ¬ a2 = 1 ∧ ¬ a2 = 2 ∧ ¬ a2 = 3 ∧ ¬ a2 = 4
    · have z : (if a2 < 0 then some (2 : Int32) else if (4 : Int32) < a2 then some (2 : Int32) else some (0 : Int32)) = some 2 := by
        by_cases q1 : a2 < 0
        · rw [if_pos q1]
        · rw [if_neg q1]
          by_cases q2 : (4 : Int32) < a2
          · rw [if_pos q2]
          · exfalso
            obtain ⟨j, j1, j2⟩ := nn_of (x := a2) (by
              rw [Int32.lt_iff_toInt_lt] at q1
              have : (0 : Int32).toInt = 0 := rfl
              omega)
            rw [j2, show (4 : Int32) = Int32.ofNat 4 from rfl, nn_lt (by omega) (by omega)] at q2
            rw [j2] at w
            rcases (show j = 0 ∨ j = 1 ∨ j = 2 ∨ j = 3 ∨ j = 4 by omega) with e | e | e | e | e <;> rw [e] at w
            · exact w.1 rfl
            · exact w.2.1 rfl
            · exact w.2.2.1 rfl
            · exact w.2.2.2.1 rfl
            · exact w.2.2.2.2 rfl
      have e : f_X12_corner N (Int32.ofNat c) a2 sm = some (0, hq_si sm 174 0 2) := by
        unfold f_X12_corner
        rw [iM]
        simp only [ob]
        rw [if_neg (by decide), z]
        simp only [ob]
        rw [nn_pi]
        simp only [ob]
        rw [nn_g1, if_neg (by decide)]
      exact ⟨_, hRc hc R e, Or.inr ⟨e, Or.inr ⟨iX, w, nn_g1⟩⟩⟩
    · have w' : a2 = 0 ∨ a2 = 1 ∨ a2 = 2 ∨ a2 = 3 ∨ a2 = 4 := by
        by_cases q0 : a2 = 0
        · exact Or.inl q0
        by_cases q1 : a2 = 1
        · exact Or.inr (Or.inl q1)
        by_cases q2 : a2 = 2
        · exact Or.inr (Or.inr (Or.inl q2))
        by_cases q3 : a2 = 3
        · exact Or.inr (Or.inr (Or.inr (Or.inl q3)))
        by_cases q4 : a2 = 4
        · exact Or.inr (Or.inr (Or.inr (Or.inr q4)))
        exact absurd ⟨q0, q1, q2, q3, q4⟩ w
      -- the lanes laid
      have M6 : hl_M nl nc fr to on (hq_si sm 174 0 0) := by
        obtain ⟨y1, y2, y3, y4, y5⟩ := M
        refine ⟨y1, y2, (nn_n (by omega)).trans y3, (nn_n (by omega)).trans y4, fun k hk => ?_⟩
        rw [nn_n (by omega), nn_n (by omega), nn_n (by omega)]
        exact y5 k hk
      obtain ⟨g, f, e8, g8, -⟩ := hm_lays (N := N) (l := 0) (s := hq_si sm 174 0 0) (bar := bar) (both := false) (by omega) (by omega) ⟨fun h => (by cases h), fun h => by
        rw [nn_n (by omega), Id.1] at h
        exact absurd h (by decide)⟩ ((nn_n (by omega)).trans B) (by omega) M6
      have e8 : f_X12_lays N 0 (hq_si sm 174 0 0) = some (hq_w (hq_w (hq_si sm 174 0 0) 206 g) 207 f) := e8
      have eo : ∀ k i, ¬ (k = 174 ∧ i = 0) → ¬ k = 206 → ¬ k = 207 → hq_gi (hq_w (hq_w (hq_si sm 174 0 0) 206 g) 207 f) k i = hq_gi sm k i := fun k i h1 h2 h3 => by rw [w9_n h3, w9_n h2, nn_n h1]
      have e0 : hq_gi (hq_w (hq_w (hq_si sm 174 0 0) 206 g) 207 f) 174 0 = 0 := by rw [w9_n (by omega), w9_n (by omega), nn_g1]
      have e6 : ∀ i, hq_gi (hq_w (hq_w (hq_si sm 174 0 0) 206 g) 207 f) 206 i = g i := fun i => by rw [w9_n (by omega), w9_g]
      generalize hq_w (hq_w (hq_si sm 174 0 0) 206 g) 207 f = s8 at e8 eo e0 e6
      have T8 : hr_told nc nl ng nt t sx s8 := told_lo T (fun _ _ _ _ => rfl) (fun _ _ _ _ => rfl) (fun k i k1 k2 _ => eo k i (by omega) (by omega) (by omega))
      have W8 : hn_N nc ng nt 76 0 sx s8 := hn_N_lo b.1 b.2.2.1 b.2.2.2 (fun _ _ _ _ => rfl) rfl (fun c i c1 c2 => eo c i (by omega) (by omega) (by omega)) (fun i _ => eo 185 i (by omega) (by omega) (by omega)) (fun i _ => by
        unfold hn_bold
        rw [eo 174 53 (by omega) (by omega) (by omega), eo 174 54 (by omega) (by omega) (by omega), eo 189 i (by omega) (by omega) (by omega)]) W
      have z : (if a2 < 0 then some (2 : Int32) else if (4 : Int32) < a2 then some (2 : Int32) else some (0 : Int32)) = some 0 := by
        rcases w' with e | e | e | e | e <;> rw [e] <;> decide
      have eM : f_X12_corner N (Int32.ofNat c) a2 sm = if a2 = (0 : Int32) then (hq_ld s8 178 20 (Int32.ofNat c)).bind fun x10 => some (x10, s8) else if a2 = (1 : Int32) then (hq_ld s8 199 230 (Int32.ofNat c)).bind fun x12 => some (x12, s8) else if a2 = (2 : Int32) then (f_X12_guardsAt N (0 : Int32) (Int32.ofNat c) s8).bind fun y14 => some (y14.1, y14.2) else if a2 = (3 : Int32) then (f_X12_thievesAt N (Int32.ofNat c) s8).bind fun y16 => some (y16.1, y16.2) else (hq_ld s8 206 10 (Int32.ofNat c)).bind fun x17 => some (x17, s8) := by
        unfold f_X12_corner
        rw [iM]
        simp only [ob]
        rw [if_neg (by decide), z]
        simp only [ob]
        rw [nn_pi]
        simp only [ob]
        rw [nn_g1, if_pos rfl, e8]
        simp only [ob]
      have eX : f_X11_corner N (Int32.ofNat c) a2 sx = if a2 = (0 : Int32) then (hq_ld sx (t + 2) 10 (Int32.ofNat c)).bind fun x4 => some (x4, sx) else if a2 = (1 : Int32) then (hq_ld sx 77 10 (Int32.ofNat c)).bind fun x5 => some (x5, sx) else if a2 = (2 : Int32) then (f_X11_guardsAt N (Int32.ofNat c) sx).bind fun y6 => some (y6.1, y6.2) else if a2 = (3 : Int32) then (f_X11_thievesAt N (Int32.ofNat c) sx).bind fun y7 => some (y7.1, y7.2) else if a2 = (4 : Int32) then (hq_ld sx 104 10 (Int32.ofNat c)).bind fun x8 => some (x8, sx) else none := by
        unfold f_X11_corner
        rw [iX]
        simp only [ob]
        rw [if_neg (by decide), t1, if_pos hT]
      suffices H : ∃ v, f_X11_corner N (Int32.ofNat c) a2 sx = some (v, sx) ∧ f_X12_corner N (Int32.ofNat c) a2 sm = some (v, s8) from by
        obtain ⟨v, h1, h2⟩ := H
        exact ⟨s8, hRc hc R h2, Or.inl ⟨v, h1, h2, e0⟩⟩
      rcases w' with e | e | e | e | e
      · obtain ⟨p, p1, p2, p3⟩ := (T8.2.2.1 c hcn).2.1
        refine ⟨Int32.ofNat p, ?_, ?_⟩
        · rw [eX, if_pos e, nn_ld (by omega) (by omega), p2]; rfl
        · rw [eM, if_pos e, nn_ld (by omega) (by omega), p3]; rfl
      · obtain ⟨p, p1, p2, p3⟩ := W8.2.2.2.1 c hcn
        rw [show 10 * 0 + c = c by omega] at p3
        have p2 : hq_gi sx 77 c = Int32.ofNat p := p2
        refine ⟨Int32.ofNat p, ?_, ?_⟩
        · rw [eX, e, if_neg (by decide), if_pos rfl, nn_ld (by omega) (by omega), p2]; rfl
        · rw [eM, e, if_neg (by decide), if_pos rfl, nn_ld (by omega) (by omega), p3]; rfl
      · obtain ⟨v, v1, v2⟩ := cn_g (N := N) t1 t2 T8 W8 (a1 := Int32.ofNat c) ng 0 N N 0 (by omega) (by omega) (by omega)
        have v1 : f_X11_guardsAt N (Int32.ofNat c) sx = some (v, sx) := v1
        have v2 : f_X12_guardsAt N 0 (Int32.ofNat c) s8 = some (v, s8) := v2
        refine ⟨v, ?_, ?_⟩
        · rw [eX, e, if_neg (by decide), if_neg (by decide), if_pos rfl, v1]; rfl
        · rw [eM, e, if_neg (by decide), if_neg (by decide), if_pos rfl, v2]; rfl
      · obtain ⟨v, v1, v2⟩ := cn_t (N := N) t1 t2 T8 W8 (a1 := Int32.ofNat c) nt 0 N N 0 (by omega) (by omega) (by omega)
        have v1 : f_X11_thievesAt N (Int32.ofNat c) sx = some (v, sx) := v1
        have v2 : f_X12_thievesAt N (Int32.ofNat c) s8 = some (v, s8) := v2
        refine ⟨v, ?_, ?_⟩
        · rw [eX, e, if_neg (by decide), if_neg (by decide), if_neg (by decide), if_pos rfl, v1]; rfl
        · rw [eM, e, if_neg (by decide), if_neg (by decide), if_neg (by decide), if_pos rfl, v2]; rfl
      · refine ⟨Int32.ofNat (ly_nx fr to on bar false nl c), ?_, ?_⟩
        · rw [eX, e, if_neg (by decide), if_neg (by decide), if_neg (by decide), if_neg (by decide), if_pos rfl, nn_ld (by omega) (by omega), show hq_gi sx 104 c = _ from S.2 c (by omega)]; rfl
        · rw [eM, e, if_neg (by decide), if_neg (by decide), if_neg (by decide), if_neg (by decide), nn_ld (by omega) (by omega), e6, g8 c (by omega)]; rfl
  · rw [if_neg c1] at iX iM
    exact bad1 iX iM
