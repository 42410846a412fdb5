/-! CHASE AND FLEE -/
section
variable {N n g : Nat} {nx : Nat → Nat}
/-- where the reference's chasers are -/
def cW (g : Nat) (gi p : Nat → Nat) (s : hq_S) : Prop := ∀ j, j < g → gi j < 3 ∧ hq_gi s 213 j = Int32.ofNat (gi j) ∧ hq_gi s 200 (gi j) = Int32.ofNat (p j)
theorem rs_2 {p gi : Nat → Nat} {c : Nat} (hN : 100 < N) (hg : g ≤ 3) (hp : ∀ j, j < g → p j < 10) (hc : c < 10) : ∀ (q j m : Nat) (s : hq_S), j + q = g → q < m → cm_F n g nx s → cW g gi p s → (∀ i, i < j → hq_gi s 214 i = Int32.ofNat (p i)) → ∃ s', f_X12_roundsOf_L2 N m (Int32.ofNat c) (Int32.ofNat j) s = some (if g = 0 then -1 else hq_gi s' 208 (enc 10 (pud p g c) (g + 1)), s') ∧ (∀ i, i < g → hq_gi s' 214 i = Int32.ofNat (p i)) ∧ ∀ c i, ¬ c = 214 → hq_gi s' c i = hq_gi s c i := by
  intro q
  induction q with
  | zero =>
    intro j m s hj hm F W h
    obtain ⟨m, rfl⟩ : ∃ j, m = j + 1 := ⟨m - 1, by omega⟩
    have cc : ¬ Int32.ofNat j < Int32.ofNat g := by rw [nn_lt (by omega) (by omega)]; omega
    refine ⟨s, ?_, fun i hi => h i (by omega), fun _ _ _ => rfl⟩
    rw [f_X12_roundsOf_L2_s]
    unfold f_X12_roundsOf_L2_B
    have z0 : (Int32.ofNat g = 0) = (g = 0) := nb_eq0 (by omega)
    by_cases z : g = 0
    · have z1 : Int32.ofNat g = 0 := by rw [z0]; exact z
      rw [F.2.1, if_neg cc, if_pos z1, if_pos z]
    · have z1 : ¬ Int32.ofNat g = 0 := by rw [z0]; exact z
      have co := co_all (N := N) (p := p) (c := c) (k1 := 214) hN hg (Or.inl rfl) F (fun i hi => h i (by omega))
      have pp : ∀ j, j < g + 1 → pud p g c j < 10 := fun j hj => by
        by_cases e : j = g
        · rw [e, pud_i]; exact hc
        · rw [pud_n e]; exact hp j (by omega)
      have el := Nat.lt_of_lt_of_le (enc_lt (g + 1) pp) (p10g hg)
      have ld : hq_ld s 208 10000 (Int32.ofNat (enc 10 (pud p g c) (g + 1))) = some (hq_gi s 208 (enc 10 (pud p g c) (g + 1))) := nn_ld el (by omega)
      rw [F.2.1, if_neg cc, if_neg z1, co, Option.bind_some, ld, Option.bind_some, if_neg z]
  | succ q ih =>
    intro j m s hj hm F W h
    obtain ⟨m, rfl⟩ : ∃ j, m = j + 1 := ⟨m - 1, by omega⟩
    have cc : Int32.ofNat j < Int32.ofNat g := (nn_lt (by omega) (by omega)).mpr (by omega)
    obtain ⟨w1, w2, w3⟩ := W j (by omega)
    have l1 : hq_ld s 213 3 (Int32.ofNat j) = some (Int32.ofNat (gi j)) := by rw [nn_ld (by omega) (by omega), w2]
    have l2 : hq_ld s 200 69 (Int32.ofNat (gi j)) = some (Int32.ofNat (p j)) := by rw [nn_ld (by omega) (by omega), w3]
    have st : hq_st s 214 3 (Int32.ofNat j) (Int32.ofNat (p j)) = some (hq_si s 214 j (Int32.ofNat (p j))) := nn_st (by omega) (by omega)
    have ow : ∀ c i, ¬ c = 214 → hq_gi (hq_si s 214 j (Int32.ofNat (p j))) c i = hq_gi s c i := fun c i h => by rw [nb_ii, if_neg (fun z => h z.1)]
    obtain ⟨s', e1, e2, e3⟩ := ih (j + 1) m (hq_si s 214 j (Int32.ofNat (p j))) (by omega) (by omega) (cm_F_k (fun c i h => ow c i (by omega)) F) (fun i hi => by rw [ow _ _ (by omega), ow _ _ (by omega)]; exact W i hi) (fun i hi => by
      rw [nb_ii]
      by_cases e : i = j
      · rw [if_pos ⟨rfl, e⟩, e]
      · rw [if_neg (fun z => e z.2)]; exact h i (by omega))
    refine ⟨s', ?_, e2, fun c i h => (e3 c i h).trans (ow c i h)⟩
    rw [← e1, f_X12_roundsOf_L2_s]
    unfold f_X12_roundsOf_L2_B
    rw [F.2.1, if_pos cc, l1, Option.bind_some, l2, Option.bind_some, st, Option.bind_some, nn_succ]
theorem rs_all {p gi : Nat → Nat} {c : Nat} {s : hq_S} (hN : 100 < N) (hg : g ≤ 3) (hp : ∀ j, j < g → p j < 10) (hc : c < 10) (F : cm_F n g nx s) (W : cW g gi p s) : ∃ s', f_X12_roundsOf N (Int32.ofNat c) s = some (if g = 0 then -1 else hq_gi s' 208 (enc 10 (pud p g c) (g + 1)), s') ∧ (∀ i, i < g → hq_gi s' 214 i = Int32.ofNat (p i)) ∧ ∀ c i, ¬ c = 214 → hq_gi s' c i = hq_gi s c i := rs_2 hN hg hp hc g 0 N s (by omega) (by omega) F W (fun i hi => by omega)
theorem at_2 {p : Nat → Nat} {c : Nat} {s : hq_S} (hg : g ≤ 3) (hp : ∀ j, j < g → p j < 1000) (hc : c < 1000) (F : cm_F n g nx s) (D : ∀ j, j < g → hq_gi s 214 j = Int32.ofNat (p j)) : ∀ (q j m : Nat), j + q = g → q < m → (∀ i, i < j → ¬ p i = c) → ∃ v, f_X12_isAt_L2 N m (Int32.ofNat c) (Int32.ofNat j) s = some (v, s) ∧ ((v = 1 ∧ ∃ i, i < g ∧ p i = c) ∨ (v = 0 ∧ ¬ ∃ i, i < g ∧ p i = c)) := by
  intro q
  induction q with
  | zero =>
    intro j m hj hm no
    obtain ⟨m, rfl⟩ : ∃ j, m = j + 1 := ⟨m - 1, by omega⟩
    have cc : ¬ Int32.ofNat j < Int32.ofNat g := by rw [nn_lt (by omega) (by omega)]; omega
    exact ⟨0, by simp only [f_X12_isAt_L2_s, f_X12_isAt_L2_B, F.2.1, if_neg cc], Or.inr ⟨rfl, fun ⟨i, h1, h2⟩ => no i (by omega) h2⟩⟩
  | succ q ih =>
    intro j m hj hm no
    obtain ⟨m, rfl⟩ : ∃ j, m = j + 1 := ⟨m - 1, by omega⟩
    have cc : Int32.ofNat j < Int32.ofNat g := (nn_lt (by omega) (by omega)).mpr (by omega)
    have ld : hq_ld s 214 3 (Int32.ofNat j) = some (Int32.ofNat (p j)) := by rw [nn_ld (by omega) (by omega), D j (by omega)]
    have eq := nb_eq (show p j < 2147483648 by have := hp j (by omega); omega) (show c < 2147483648 by omega)
    by_cases q1 : p j = c
    · exact ⟨1, by simp only [f_X12_isAt_L2_s, f_X12_isAt_L2_B, F.2.1, if_pos cc, ld, Option.bind_some, eq, if_pos q1], Or.inl ⟨rfl, j, by omega, q1⟩⟩
    · obtain ⟨v, v1, v2⟩ := ih (j + 1) m (by omega) (by omega) (fun i hi => by
        by_cases e : i = j
        · rw [e]; exact q1
        · exact no i (by omega))
      refine ⟨v, ?_, v2⟩
      rw [← v1]
      simp only [f_X12_isAt_L2_s, f_X12_isAt_L2_B, F.2.1, if_pos cc, ld, Option.bind_some, eq, if_neg q1, nn_succ]
theorem isAt_all {p : Nat → Nat} {c : Nat} {s : hq_S} (hN : 100 < N) (hg : g ≤ 3) (hp : ∀ j, j < g → p j < 1000) (hc : c < 1000) (F : cm_F n g nx s) (D : ∀ j, j < g → hq_gi s 214 j = Int32.ofNat (p j)) : ∃ v, f_X12_isAt N (Int32.ofNat c) s = some (v, s) ∧ ((v = 1 ∧ ∃ i, i < g ∧ p i = c) ∨ (v = 0 ∧ ¬ ∃ i, i < g ∧ p i = c)) := at_2 hg hp hc F D g 0 N (by omega) (by omega) (fun i hi => by omega)
end
section
variable {N nc nl ng nt t bar : Nat} {fr to on : Nat → Nat} {sx sm : hq_S}
/-- both solved for these guards -/
theorem ch_both {G : Nat} (hN : 10300 < N) (h1 : 1 ≤ nc) (hG : G < 2 ^ ng) (I : hr_idle sm) (H : hC sx) (T : hr_T nc nl ng nt t bar fr to on sx sm) : ∃ (ga : Nat → Nat) (sm1 : hq_S), (∀ j, j < nb_pop G ng → ga (gs G ng j) < nc) ∧ nb_pop G ng ≤ 3 ∧ f_X12_putsGuards N (Int32.ofNat G) sm = some sm1 ∧ cm_F nc (nb_pop G ng) (ly_nx fr to on bar false nl) sm1 ∧ cW (nb_pop G ng) (gs G ng) (fun j => ga (gs G ng j)) sm1 ∧ (G = 0 ∨ (¬ G = 0 ∧ 1 ≤ nb_pop G ng ∧ ∃ K K' sx1, cM nc (nb_pop G ng) (ly_nx fr to on bar false nl) K' sm1 ∧ K < 20000 ∧ K' < 20000 ∧ f_J6_bitCount_0f7a4 N (Int32.ofNat G) sx = some (Int32.ofNat (nb_pop G ng), sx) ∧ f_X0_solve N 103 (Int32.ofNat (nb_pop G ng)) sx = some sx1 ∧ f_X11_rowOf N (Int32.ofNat G) sx1 = some (Int32.ofNat (enc nc (fun j => ga (gs G ng j)) (nb_pop G ng)), sx1) ∧ cB nc (nb_pop G ng) (tnx (ly_nx fr to on bar false nl)) ∧ cS nc (nb_pop G ng) (tnx (ly_nx fr to on bar false nl)) K sx1 ∧ cF nc (nb_pop G ng) (tnx (ly_nx fr to on bar false nl)) K ∧ hC sx1 ∧ (∀ c i, ¬ (152 ≤ c ∧ c ≤ 158) → hq_gi sx1 c i = hq_gi sx c i))) := by
  obtain ⟨⟨t1, t2, t3⟩, ⟨⟨b1, b2, b3, b4⟩, ⟨c1, c2, -, -, g1, g2, -, -⟩, -⟩, ⟨X, M, S, F, B, Bl⟩, W, -⟩ := T
  have hx := ly_nx_lt (fr := fr) (to := to) (on := on) (bar := bar) (both := false) (nc := nc) (n := nl) fun k hk => ⟨(M.2.2.2.2 k hk).1, (M.2.2.2.2 k hk).2.1⟩
  have p3 : (2 : Nat) ^ ng ≤ 8 := Nat.pow_le_pow_right (by omega) (show ng ≤ 3 by omega)
  have hga : ∀ i, ∃ c : Nat, i < ng → c < nc ∧ hq_gi sx 78 i = Int32.ofNat c ∧ hq_gi sm 200 i = Int32.ofNat c := fun i => by
    by_cases q : i < ng
    · obtain ⟨c, c1, c2, c3⟩ := (W.2.2.2.2.2.1 i q).1
      rw [show 3 * 0 + i = i by omega] at c3
      exact ⟨c, fun _ => ⟨c1, c2, c3⟩⟩
    · exact ⟨0, fun h => absurd h q⟩
  obtain ⟨ga, hga⟩ := Classical.axiomOfChoice hga
  have pl := nb_pop_le G ng
  have gl : ∀ j, j < nb_pop G ng → gs G ng j < ng := fun j hj => gs_lt ng j hj
  obtain ⟨gg, f, e1, e2, e3⟩ := hm_lays (N := N) (l := 0) (both := false) (by omega) (by omega) ⟨fun h => (by cases h), fun h => absurd h (by rw [I.1]; decide)⟩ B (by omega) M
  have e1 : f_X12_lays N 0 sm = some (hq_w (hq_w sm 206 gg) 207 f) := e1
  generalize hw : hq_w (hq_w sm 206 gg) 207 f = w at e1
  have w0 : ∀ c i, ¬ c = 206 → ¬ c = 207 → hq_gi w c i = hq_gi sm c i := fun c i h1 h2 => by rw [← hw, hw_n h2, hw_n h1]
  have Rw : hl_R nc (ly_nx fr to on bar false nl) w := ⟨by rw [w0 _ _ (by omega) (by omega)]; exact c2, fun c hc => by rw [← hw, hw_n (by omega), hw_g]; exact e2 c hc⟩
  have Pw : ∀ i, i < 5 → hq_gi w 212 i = Int32.ofNat (10 ^ i) := fun i hi => by
    rw [w0 _ _ (by omega) (by omega)]
    obtain ⟨-, -, -, i0, i1, i2, i3, i4⟩ := I
    rcases (show i = 0 ∨ i = 1 ∨ i = 2 ∨ i = 3 ∨ i = 4 by omega) with rfl | rfl | rfl | rfl | rfl
    · exact i0
    · exact i1
    · exact i2
    · exact i3
    · exact i4
  obtain ⟨s1, f1, f2, f3⟩ := pg_9 (N := N) b3 hG ng 0 N w (by omega) (by omega) (by rw [w0 _ _ (by omega) (by omega)]; exact g2) (fun j hj => by rw [nb_pop] at hj; omega)
  have f1 : f_X12_putsGuards_L9 N N (Int32.ofNat G) 0 0 w = _ := f1
  have R1 : hl_R nc (ly_nx fr to on bar false nl) s1 := ⟨by rw [f3 _ _ (by omega)]; exact Rw.1, fun c hc => by rw [f3 _ _ (by omega)]; exact Rw.2 c hc⟩
  have P1 : ∀ i, i < 5 → hq_gi s1 212 i = Int32.ofNat (10 ^ i) := fun i hi => by rw [f3 _ _ (by omega)]; exact Pw i hi
  have cw : ∀ sm1 : hq_S, (∀ c i, ¬ (208 ≤ c ∧ c ≤ 211) → ¬ (c = 174 ∧ i = 60) → hq_gi sm1 c i = hq_gi s1 c i) → cW (nb_pop G ng) (gs G ng) (fun j => ga (gs G ng j)) sm1 := fun sm1 h j hj => by
    have lt := gl j hj
    refine ⟨by omega, by rw [h _ _ (by omega) (by omega)]; exact f2 j hj, ?_⟩
    rw [h _ _ (by omega) (by omega), f3 _ _ (by omega), w0 _ _ (by omega) (by omega)]
    exact (hga _ lt).2.2
  by_cases q0 : G = 0
  · have pz : nb_pop G ng = 0 := by
      have : ∀ m, nb_pop 0 m = 0 := fun m => by
        induction m with
        | zero => rfl
        | succ m ih => rw [nb_pop, ih, Nat.zero_testBit]; rfl
      rw [q0]; exact this ng
    rw [pz] at f1
    obtain ⟨s2, l1, l2, l3⟩ := ly_none (N := N) hN b1 R1 P1
    refine ⟨ga, s2, fun j hj => (hga _ (gl j hj)).1, by omega, ?_, by rw [pz]; exact l2, cw s2 l3, Or.inl q0⟩
    unfold f_X12_putsGuards
    rw [e1, Option.bind_some, f1]
    have l1 : f_X12_laysChase N (Int32.ofNat 0) s1 = some s2 := l1
    rw [l1]
    rfl
  · have p1 := nb_pop_pos hG q0
    obtain ⟨K', s2, k1, l1, l2, l3⟩ := ly_all (N := N) hN h1 b1 p1 (by omega) hx R1 P1
    obtain ⟨K, sx1, m1, m2, m3, m4, m5, -, m7⟩ := so_all (N := N) (m := nb_pop G ng) hN h1 b1 hx p1 (by omega) H S
    have bc : f_J6_bitCount_0f7a4 N (Int32.ofNat G) sx = some (Int32.ofNat (nb_pop G ng), sx) := by
      have := hb_bc (N := N) (a := G) (s := sx) (by omega)
      rw [nb_pop_eq hG 20 (by omega)] at this
      exact this
    have rr : hq_gr sx1 0 2 = t := by
      rw [(f_X0_solve_fw (Or.inl rfl) m2 0 2 (by decide)).2.2]
      exact t1
    have row := ro_row (N := N) (n := nc) (s := sx1) (ga := ga) (by omega) b3 hG rr t2 (by rw [m7 _ _ (by omega)]; exact g1) (by rw [m7 _ _ (by omega)]; exact c1) (fun i hi => by rw [m7 _ _ (by omega)]; exact (hga i hi).2.1)
    refine ⟨ga, s2, fun j hj => (hga _ (gl j hj)).1, by omega, ?_, l2.1, cw s2 l3, Or.inr ⟨q0, p1, K, K', sx1, l2, m1, k1, bc, m2, row, tnx_B h1 b1 hx p1 (by omega), m3, m4, ⟨_, _, m5⟩, m7⟩⟩
    unfold f_X12_putsGuards
    rw [e1, Option.bind_some, f1, l1]
    rfl
end
