/-! THE READER: what hangs on first halves alone; the halves laid over -/
section
variable {nc nl ng nt t v k l bar : Nat} {fr to on : Nat → Nat} {sx sx' sm sm' : hq_S}
theorem rule_lo {r : Nat} (hr : r < 3) (h : hr_rule v r sx sm) (ux : ∀ k i, v ≤ k → k ≤ v + 22 → hq_gi sx' k i = hq_gi sx k i) (um : ∀ k i, 176 ≤ k → k ≤ 193 → i < hf k → hq_gi sm' k i = hq_gi sm k i) : hr_rule v r sx' sm' := by
  obtain ⟨f, e, h1, h2, h3, h4, h5, h6, h7, h8, h9⟩ := h
  refine ⟨f, e, h1, h2, ?_, ?_, ?_, ?_, h7, fun j j1 j2 => ?_, fun hf' => ?_⟩
  · rw [ux _ _ (by omega) (by omega)]; exact h3
  · rw [um 190 r (by omega) (by omega) hr]; exact h4
  · rw [ux _ _ (by omega) (by omega)]; exact h5
  · rw [um 191 r (by omega) (by omega) hr]; exact h6
  · rw [ux _ _ (by omega) (by omega), um 192 j (by omega) (by omega) (show j < 64 by omega), um 193 j (by omega) (by omega) (show j < 64 by omega)]; exact h8 j j1 j2
  · obtain ⟨D, d1, d2, d3⟩ := h9 hf'
    refine ⟨D, d1, d2, fun j j1 j2 => ?_⟩
    rw [um 192 j (by omega) (by omega) (show j < 64 by omega), um 193 j (by omega) (by omega) (show j < 64 by omega)]; exact d3 j j1 j2
theorem told_lo (h : hr_told nc nl ng nt v sx sm) (ux : ∀ k i, v ≤ k → k ≤ v + 22 → hq_gi sx' k i = hq_gi sx k i) (uj : ∀ k i, v ≤ k → k ≤ v + 22 → hq_gj sx' k i = hq_gj sx k i) (um : ∀ k i, 176 ≤ k → k ≤ 193 → i < hf k → hq_gi sm' k i = hq_gi sm k i) : hr_told nc nl ng nt v sx' sm' := by
  obtain ⟨⟨b1, b2, b3, b4⟩, h2, h3, h4, h5, h6, h7, h8, h9, h10, h11, r0, r1, r2⟩ := h
  have q0 := rule_lo (by omega) r0 ux um
  have q1 := rule_lo (by omega) r1 ux um
  have q2 := rule_lo (by omega) r2 ux um
  have u6 : ∀ i, i < 7 → hq_gi sm' 176 i = hq_gi sm 176 i := fun i hi => um 176 i (by omega) (by omega) hi
  refine ⟨⟨b1, b2, b3, b4⟩, ?_, fun i hi => ?_, fun i hi hi' => ?_, fun i hi => ?_, fun i hi => ?_, fun i hi => ?_, ?_, ?_, ?_, ?_, q0, q1, q2⟩
  · simp (disch := omega) only [ux, u6]; exact h2
  · rw [ux _ _ (by omega) (by omega), ux _ _ (by omega) (by omega), ux _ _ (by omega) (by omega), um 177 i (by omega) (by omega) (show i < 10 by omega), um 178 i (by omega) (by omega) (show i < 10 by omega), um 179 i (by omega) (by omega) (show i < 10 by omega)]; exact h3 i hi
  · rw [ux _ _ (by omega) (by omega)]; exact h4 i hi hi'
  · rw [ux (v + 3) _ (by omega) (by omega), ux (v + 4) _ (by omega) (by omega), ux v _ (by omega) (by omega), um 180 i (by omega) (by omega) (show i < 20 by omega), um 181 i (by omega) (by omega) (show i < 20 by omega), um 182 i (by omega) (by omega) (show i < 20 by omega)]; exact h5 i hi
  · obtain ⟨g1, g2, w, g3, g4, g5, g6⟩ := h6 i hi
    refine ⟨?_, ?_, w, g3, ?_, ?_, fun j hj => ?_⟩
    · rw [ux _ _ (by omega) (by omega), um 183 i (by omega) (by omega) (show i < 3 by omega)]; exact g1
    · rw [ux _ _ (by omega) (by omega), um 184 i (by omega) (by omega) (show i < 3 by omega)]; exact g2
    · rw [ux _ _ (by omega) (by omega)]; exact g4
    · rw [um 185 i (by omega) (by omega) (show i < 3 by omega)]; exact g5
    · rw [ux _ _ (by omega) (by omega), um 186 (8 * i + j) (by omega) (by omega) (show 8 * i + j < 24 by omega)]; exact g6 j hj
  · rw [ux _ _ (by omega) (by omega), ux _ _ (by omega) (by omega), ux _ _ (by omega) (by omega), um 187 i (by omega) (by omega) (show i < 4 by omega), um 188 i (by omega) (by omega) (show i < 4 by omega), um 189 i (by omega) (by omega) (show i < 4 by omega)]; exact h7 i hi
  · rw [ux _ _ (by omega) (by omega), u6 _ (by omega)]; exact h8
  · rw [uj _ _ (by omega) (by omega), u6 _ (by omega)]; exact h9
  · simp (disch := omega) only [ux]; exact h10
  · rw [ux _ _ (by omega) (by omega), u6 _ (by omega)]; exact h11
theorem hn_N_lo (hnc : nc ≤ 10) (hng : ng ≤ 3) (hnt : nt ≤ 4) (ex : ∀ c i, k ≤ c → c ≤ k + 8 → hq_gi sx' c i = hq_gi sx c i) (ej : hq_gj sx' k 1 = hq_gj sx k 1) (em : ∀ c i, 196 ≤ c → c ≤ 205 → hq_gi sm' c i = hq_gi sm c i) (e5 : ∀ i, i < 3 → hq_gi sm' 185 i = hq_gi sm 185 i) (eb : ∀ i, i < nt → hn_bold sm' i = hn_bold sm i) (h : hn_N nc ng nt k l sx sm) : hn_N nc ng nt k l sx' sm' := by
  obtain ⟨h1, h2, h3, h4, h5, h6, h7, h8⟩ := h
  refine ⟨?_, ?_, ?_, fun i hi => ?_, fun i hi hi' => ?_, fun i hi => ?_, fun i hi => ?_, fun i hi hi' => ?_⟩
  · rw [ex _ _ (by omega) (by omega), em _ _ (by omega) (by omega)]; exact h1
  · rw [ej, em _ _ (by omega) (by omega)]; exact h2
  · rw [ex _ _ (by omega) (by omega), em _ _ (by omega) (by omega)]; exact h3
  · rw [ex _ _ (by omega) (by omega), em _ _ (by omega) (by omega)]; exact h4 i hi
  · rw [em _ _ (by omega) (by omega)]; exact h5 i hi hi'
  · rw [ex (k + 2) _ (by omega) (by omega), ex (k + 3) _ (by omega) (by omega), ex (k + 4) _ (by omega) (by omega), em 200 _ (by omega) (by omega), em 201 _ (by omega) (by omega), em 202 _ (by omega) (by omega), e5 i (by omega)]; exact h6 i hi
  · rw [ex (k + 5) _ (by omega) (by omega), ex (k + 6) _ (by omega) (by omega), ex (k + 7) _ (by omega) (by omega), ex (k + 8) _ (by omega) (by omega), em 203 _ (by omega) (by omega), em 204 _ (by omega) (by omega), em 205 _ (by omega) (by omega), eb i hi]; exact h7 i hi
  · rw [em _ _ (by omega) (by omega)]; exact h8 i hi hi'
theorem idle_lo (hm : kM sm sm') (h : hr_idle sm) : hr_idle sm' := by
  unfold hr_idle at h ⊢
  rw [hm.2.2 49 (by omega), hm.2.2 50 (by omega), hm.2.2 53 (by omega), hm.1 212 0 (by omega) (by omega), hm.1 212 1 (by omega) (by omega), hm.1 212 2 (by omega) (by omega), hm.1 212 3 (by omega) (by omega), hm.1 212 4 (by omega) (by omega)]
  exact h
/-- a text with a fault leaves the town as it is -/
theorem hr_T_lo (I : hr_idle sm) (hx : kX (27 - t) (hq_si sx 0 1 0) sx') (hm : kM sm sm') (h : hr_T nc nl ng nt t bar fr to on sx sm) : hr_T nc nl ng nt t bar fr to on sx' sm' := by
  have I' := idle_lo hm I
  obtain ⟨⟨t1, t2, t3⟩, T, ⟨X, M, S, F, B, Bl⟩, W, Fa, Im, U⟩ := h
  have b := T.1
  have xg : ∀ c i, ¬ (c = 0 ∧ i = 1) → ¬ (27 - t ≤ c ∧ c ≤ 49 - t) → ¬ c = 48 → ¬ c = 49 → ¬ c = 75 → hq_gi sx' c i = hq_gi sx c i := fun c i h1 h2 h3 h4 h5 => (hx c i (by omega) h3 h4 h5).1.trans (nn_n h1)
  have xj : ∀ c i, ¬ (27 - t ≤ c ∧ c ≤ 49 - t) → ¬ c = 48 → ¬ c = 49 → ¬ c = 75 → hq_gj sx' c i = hq_gj sx c i := fun c i h2 h3 h4 h5 => (hx c i (by omega) h3 h4 h5).2.1
  have xr : ∀ c i, ¬ (27 - t ≤ c ∧ c ≤ 49 - t) → ¬ c = 48 → ¬ c = 49 → ¬ c = 75 → hq_gr sx' c i = hq_gr sx c i := fun c i h2 h3 h4 h5 => (hx c i (by omega) h3 h4 h5).2.2
  have mg : ∀ c i, 175 ≤ c → ¬ (176 ≤ c ∧ c ≤ 193) → hq_gi sm' c i = hq_gi sm c i := hm.1
  have m1 : ∀ i, i < 7 → hq_gi sm' 176 i = hq_gi sm 176 i := fun i hi => hm.2.1 176 i (by omega) (by omega) hi
  have m5 : ∀ i, i < 3 → hq_gi sm' 185 i = hq_gi sm 185 i := fun i hi => hm.2.1 185 i (by omega) (by omega) hi
  have m4 : ∀ i, 34 ≤ i → hq_gi sm' 174 i = hq_gi sm 174 i := hm.2.2
  have eb : ∀ i, i < nt → hn_bold sm' i = hn_bold sm i := fun i hi => by
    rw [hn_bold_i I' (by omega), hn_bold_i I (by omega), hm.2.1 189 i (by omega) (by omega) (show i < 4 by omega)]
  have ho : hm_o 1 sm sm' := fun c i c1 c2 _ => mg c i (by omega) (by omega)
  refine ⟨⟨?_, t2, ?_⟩, ?_, ⟨?_, ?_, ?_, fun a b ha hb => ?_, ?_, Bl⟩, ?_, ?_, ?_, ?_⟩
  · rw [xr 0 2 (by omega) (by omega) (by omega) (by omega)]; exact t1
  · rw [xr 0 3 (by omega) (by omega) (by omega) (by omega)]; exact t3
  · exact told_lo T (fun c i c1 c2 => xg c i (by omega) (by omega) (by omega) (by omega) (by omega)) (fun c i c1 c2 => xj c i (by omega) (by omega) (by omega) (by omega)) hm.2.1
  · obtain ⟨x1, x2, x3, x4, x5⟩ := X
    refine ⟨x1, x2, ?_, ?_, fun k hk => ?_⟩
    · rw [xg _ _ (by omega) (by omega) (by omega) (by omega) (by omega)]; exact x3
    · rw [xg _ _ (by omega) (by omega) (by omega) (by omega) (by omega)]; exact x4
    · rw [xg (t + 3) _ (by omega) (by omega) (by omega) (by omega) (by omega), xg (t + 4) _ (by omega) (by omega) (by omega) (by omega) (by omega), xg t _ (by omega) (by omega) (by omega) (by omega) (by omega)]; exact x5 k hk
  · obtain ⟨x1, x2, x3, x4, x5⟩ := M
    refine ⟨x1, x2, ?_, ?_, fun k hk => ?_⟩
    · rw [m1 _ (by omega)]; exact x3
    · rw [m1 _ (by omega)]; exact x4
    · rw [hm.2.1 180 k (by omega) (by omega) (show k < 20 by omega), hm.2.1 181 k (by omega) (by omega) (show k < 20 by omega), hm.2.1 182 k (by omega) (by omega) (show k < 20 by omega)]; exact x5 k hk
  · obtain ⟨x1, x2⟩ := S
    refine ⟨?_, fun c hc => ?_⟩
    · rw [xg _ _ (by omega) (by omega) (by omega) (by omega) (by omega)]; exact x1
    · rw [xg _ _ (by omega) (by omega) (by omega) (by omega) (by omega)]; exact x2 c hc
  · rw [xg _ _ (by omega) (by omega) (by omega) (by omega) (by omega)]; exact F a b ha hb
  · rw [mg _ _ (by omega) (by omega)]; exact B
  · exact hn_N_lo b.1 b.2.2.1 b.2.2.2 (fun c i c1 c2 => xg c i (by omega) (by omega) (by omega) (by omega) (by omega)) (xj _ _ (by omega) (by omega) (by omega) (by omega)) (fun c i c1 c2 => mg c i (by omega) (by omega)) m5 eb W
  · unfold hr_facts at Fa ⊢
    simp (disch := omega) only [xg, mg, m4]
    exact Fa
  · unfold hr_img at Im ⊢
    rw [xg 0 7 (by omega) (by omega) (by omega) (by omega) (by omega), m4 47 (by omega)]
    rcases Im with h | ⟨h1, h2, h3⟩
    · exact Or.inl h
    · exact Or.inr ⟨h1, h2, hn_N_lo b.1 b.2.2.1 b.2.2.2 (fun c i c1 c2 => xg c i (by omega) (by omega) (by omega) (by omega) (by omega)) (xj _ _ (by omega) (by omega) (by omega) (by omega)) (fun c i c1 c2 => mg c i (by omega) (by omega)) m5 eb h3⟩
  · exact hu_all_k b.2.2.1 b.1 (fun c i c1 c2 => xg c i (by omega) (by omega) (by omega) (by omega) (by omega)) (m4 48 (by omega)) ho U
end
section
variable {N c n : Nat}
def hv1 (c : Nat) (s s' : hq_S) : Prop := (∀ i, i < hf c → hq_gi s' c i = hq_gi s c (hf c + i)) ∧ (∀ k i, ¬ k = c → hq_gi s' k i = hq_gi s k i) ∧ s'.2 = s.2
theorem half_L (ha : hq_alI c = some (2 * n)) (hn : n < 1000) : ∀ (r j m : Nat) (s : hq_S), j + r = n → r < m → ∃ s', f_X12_half_L7 N m c (Int32.ofNat n) (Int32.ofNat j) s = some s' ∧ (∀ i, j ≤ i → i < n → hq_gi s' c i = hq_gi s c (n + i)) ∧ (∀ i, i < j ∨ n ≤ i → hq_gi s' c i = hq_gi s c i) ∧ (∀ k i, ¬ k = c → hq_gi s' k i = hq_gi s k i) ∧ s'.2 = s.2 := by
  intro r
  induction r with
  | zero =>
    intro j m s hj hm
    obtain ⟨m, rfl⟩ : ∃ k, m = k + 1 := ⟨m - 1, by omega⟩
    refine ⟨s, ?_, fun i h1 h2 => by omega, fun _ _ => rfl, fun _ _ _ => rfl, rfl⟩
    rw [f_X12_half_L7_s]
    unfold f_X12_half_L7_B
    rw [ie (nb_ltp (by omega) (by omega)), if_neg (by omega)]
  | succ r ih =>
    intro j m s hj hm
    obtain ⟨m, rfl⟩ : ∃ k, m = k + 1 := ⟨m - 1, by omega⟩
    have e : ∀ x, hq_stiA s c (Int32.ofNat j) x = some (hq_si s c j x) := fun x => by
      unfold hq_stiA
      rw [ha]
      exact nn_st (by omega) (by omega)
    obtain ⟨s', e1, e2, e3, e4, e5⟩ := ih (j + 1) m (hq_si s c j (hq_gi s c (n + j))) (by omega) (by omega)
    refine ⟨s', ?_, fun i h1 h2 => ?_, fun i hi => ?_, fun k i hk => ?_, e5⟩
    · rw [f_X12_half_L7_s]
      unfold f_X12_half_L7_B
      rw [ie (nb_ltp (by omega) (by omega)), if_pos (by omega), nb_add, nn_ldiA ha (by omega) (by omega)]
      simp only [ob]
      rw [e, nn_succ]
      exact e1
    · by_cases q : i = j
      · rw [q, e3 j (by omega), nn_g1]
      · rw [e2 i (by omega) h2, nn_n (by omega)]
    · rw [e3 i (by omega), nn_n (by omega)]
    · rw [e4 k i hk, nn_n (fun q => hk q.1)]
theorem half_v (hN : 1000 < N) {s : hq_S} (ha : hq_alI c = some (2 * hf c)) (hb : hq_alA c = some (Int32.ofNat (2 * hf c))) (hd : Int32.ofNat (2 * hf c) / 2 = Int32.ofNat (hf c)) (hn : hf c < 1000) : ∃ s', f_X12_half N c s = some s' ∧ hv1 c s s' := by
  obtain ⟨s', e1, e2, e3, e4, e5⟩ := half_L (N := N) ha hn (hf c) 0 N s (by omega) (by omega)
  refine ⟨s', ?_, fun i hi => e2 i (by omega) hi, e4, e5⟩
  unfold f_X12_half
  rw [hb]
  simp only [ob]
  rw [nn_idiv (by decide), hd]
  simp only [ob]
  exact e1
def hvR (c : Nat) (s s' : hq_S) : Prop := (∀ k i, 176 ≤ k → k < c → i < hf k → hq_gi s' k i = hq_gi s k (hf k + i)) ∧ (∀ k i, ¬ (176 ≤ k ∧ k < c) → hq_gi s' k i = hq_gi s k i) ∧ s'.2 = s.2
theorem hvR_0 (s : hq_S) : hvR 176 s s := ⟨fun k i h1 h2 => by omega, fun _ _ _ => rfl, rfl⟩
theorem hvR_s {s s' s'' : hq_S} (h : hvR c s s') (g : hv1 c s' s'') (hc : 176 ≤ c) : hvR (c + 1) s s'' := by
  refine ⟨fun k i h1 h2 h3 => ?_, fun k i hk => ?_, g.2.2.trans h.2.2⟩
  · by_cases e : k = c
    · rw [e] at h3 ⊢
      rw [g.1 i h3, h.2.1 _ _ (by omega)]
    · rw [g.2.1 k i e, h.1 k i h1 (by omega) h3]
  · rw [g.2.1 k i (by omega), h.2.1 k i (by omega)]
/-- all halves -/
theorem halves (hN : 1000 < N) (s : hq_S) : ∃ s', (∀ K : hq_S → Option (Int32 × hq_S), ((f_X12_half N 176 s).bind fun s20 => (f_X12_half N 177 s20).bind fun s21 => (f_X12_half N 178 s21).bind fun s22 => (f_X12_half N 179 s22).bind fun s23 => (f_X12_half N 180 s23).bind fun s24 => (f_X12_half N 181 s24).bind fun s25 => (f_X12_half N 182 s25).bind fun s26 => (f_X12_half N 183 s26).bind fun s27 => (f_X12_half N 184 s27).bind fun s28 => (f_X12_half N 185 s28).bind fun s29 => (f_X12_half N 186 s29).bind fun s30 => (f_X12_half N 187 s30).bind fun s31 => (f_X12_half N 188 s31).bind fun s32 => (f_X12_half N 189 s32).bind fun s33 => (f_X12_half N 190 s33).bind fun s34 => (f_X12_half N 191 s34).bind fun s35 => (f_X12_half N 192 s35).bind fun s36 => (f_X12_half N 193 s36).bind fun s37 => K s37) = K s') ∧ hvR 194 s s' := by
  obtain ⟨s0, a0, b0⟩ := half_v (c := 176) (s := s) hN rfl rfl (by decide) (by decide)
  obtain ⟨s1, a1, b1⟩ := half_v (c := 177) (s := s0) hN rfl rfl (by decide) (by decide)
  obtain ⟨s2, a2, b2⟩ := half_v (c := 178) (s := s1) hN rfl rfl (by decide) (by decide)
  obtain ⟨s3, a3, b3⟩ := half_v (c := 179) (s := s2) hN rfl rfl (by decide) (by decide)
  obtain ⟨s4, a4, b4⟩ := half_v (c := 180) (s := s3) hN rfl rfl (by decide) (by decide)
  obtain ⟨s5, a5, b5⟩ := half_v (c := 181) (s := s4) hN rfl rfl (by decide) (by decide)
  obtain ⟨s6, a6, b6⟩ := half_v (c := 182) (s := s5) hN rfl rfl (by decide) (by decide)
  obtain ⟨s7, a7, b7⟩ := half_v (c := 183) (s := s6) hN rfl rfl (by decide) (by decide)
  obtain ⟨s8, a8, b8⟩ := half_v (c := 184) (s := s7) hN rfl rfl (by decide) (by decide)
  obtain ⟨s9, a9, b9⟩ := half_v (c := 185) (s := s8) hN rfl rfl (by decide) (by decide)
  obtain ⟨t0, c0, d0⟩ := half_v (c := 186) (s := s9) hN rfl rfl (by decide) (by decide)
  obtain ⟨t1, c1, d1⟩ := half_v (c := 187) (s := t0) hN rfl rfl (by decide) (by decide)
  obtain ⟨t2, c2, d2⟩ := half_v (c := 188) (s := t1) hN rfl rfl (by decide) (by decide)
  obtain ⟨t3, c3, d3⟩ := half_v (c := 189) (s := t2) hN rfl rfl (by decide) (by decide)
  obtain ⟨t4, c4, d4⟩ := half_v (c := 190) (s := t3) hN rfl rfl (by decide) (by decide)
  obtain ⟨t5, c5, d5⟩ := half_v (c := 191) (s := t4) hN rfl rfl (by decide) (by decide)
  obtain ⟨t6, c6, d6⟩ := half_v (c := 192) (s := t5) hN rfl rfl (by decide) (by decide)
  obtain ⟨t7, c7, d7⟩ := half_v (c := 193) (s := t6) hN rfl rfl (by decide) (by decide)
  refine ⟨t7, fun K => ?_, ?_⟩
  · rw [a0]; simp only [ob]
    rw [a1]; simp only [ob]
    rw [a2]; simp only [ob]
    rw [a3]; simp only [ob]
    rw [a4]; simp only [ob]
    rw [a5]; simp only [ob]
    rw [a6]; simp only [ob]
    rw [a7]; simp only [ob]
    rw [a8]; simp only [ob]
    rw [a9]; simp only [ob]
    rw [c0]; simp only [ob]
    rw [c1]; simp only [ob]
    rw [c2]; simp only [ob]
    rw [c3]; simp only [ob]
    rw [c4]; simp only [ob]
    rw [c5]; simp only [ob]
    rw [c6]; simp only [ob]
    rw [c7]; simp only [ob]
  · have q9 := hvR_s (hvR_s (hvR_s (hvR_s (hvR_s (hvR_s (hvR_s (hvR_s (hvR_s (hvR_s (hvR_0 s) b0 (by omega)) b1 (by omega)) b2 (by omega)) b3 (by omega)) b4 (by omega)) b5 (by omega)) b6 (by omega)) b7 (by omega)) b8 (by omega)) b9 (by omega)
    exact hvR_s (hvR_s (hvR_s (hvR_s (hvR_s (hvR_s (hvR_s (hvR_s q9 d0 (by omega)) d1 (by omega)) d2 (by omega)) d3 (by omega)) d4 (by omega)) d5 (by omega)) d6 (by omega)) d7 (by omega)
end
