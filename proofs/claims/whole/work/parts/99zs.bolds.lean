/-! BOLDS: how bold one is by where he was seen -/
section
variable {N nc nl ng nt t bar : Nat} {fr to on : Nat → Nat} {sx sm : hq_S} {HC : hq_S → Prop}
theorem bo_prep {i : Nat} (hN : 100 < N) (hi : i < nt) (I : hr_idle sm) (T : hr_T nc nl ng nt t bar fr to on sx sm) : ∃ (k K : Nat) (li : Nat → Option Nat) (a a' : Nat) (sx1 sm1 : hq_S), f_X11_playFromText N sx = some sx1 ∧ hq_gr sx1 0 2 = t ∧ f_X2_lastHour N sx1 = some (Int32.ofNat a', sx1) ∧ a ≤ a' ∧ a' ≤ 60 ∧ f_X2_standing N sx1 = some (Int32.ofNat (sd li K K).2, sx1) ∧ f_X12_boldsOf N (Int32.ofNat i) sm = f_X12_boldsOf_L129 N N (Int32.ofNat i) (Int32.ofNat a) 0 0 sm1 ∧ (∀ x, x < k → (sd li K K).2.testBit x = true → ∀ h, a < h → h ≤ 60 → ¬ hq_gi sm1 224 x = Int32.ofNat h) ∧ bo_B nc nl ng nt t k K i fr to on li sx1 sm1 ∧ hm_o 1 sm sm1 := by
  obtain ⟨⟨t1, t2, t3⟩, To, ⟨X, M, -, -, -, -⟩, -, ⟨k, hk, k0, k4, kk, Fs⟩, -, -⟩ := T
  obtain ⟨sx1, p1, rf, S, F, ⟨m3, m4, m5⟩, ox, oj, r⟩ := hb_text (N := N) hN t1 t2 X
  have ox' : ∀ c i, 113 < c → hq_gi sx1 c i = hq_gi sx c i := fun c i h => ox c i (by omega) (by omega) (by omega) (by omega)
  have d1 : ∀ j : Nat, j < 100 → ¬ Int32.ofNat j = -1 := fun j hj z => nn_nlt0 (a := j) (by omega) (by rw [z]; decide)
  obtain ⟨K, hK, kb, HK⟩ : ∃ K, K ≤ k ∧ f_X2_knownBy N sx1 = some (Int32.ofNat K, sx1) ∧ sd_K K sm := by
    rcases kk with ⟨h1, h2⟩ | ⟨K, hK, h1, h2⟩
    · refine ⟨k, Nat.le_refl _, ?_, Or.inl ⟨h2, k4⟩⟩
      unfold f_X2_knownBy
      rw [ox' _ _ (by omega), h1, if_pos rfl, ox' _ _ (by omega), k0]
    · refine ⟨K, hK, ?_, Or.inr ⟨by rw [h2]; exact d1 K (by omega), h2⟩⟩
      unfold f_X2_knownBy
      rw [ox' _ _ (by omega), h1, if_neg (d1 K (by omega))]
  have hli : ∀ i : Nat, ∃ o : Option Nat, i < k → (o = none ∧ hq_gi sx 168 i = -1 ∧ hq_gi sm 228 i = -1) ∨ ∃ j, j < i ∧ o = some j ∧ hq_gi sx 168 i = Int32.ofNat j ∧ hq_gi sm 228 i = Int32.ofNat j := fun i => by
    by_cases q : i < k
    · rcases Fs i q with ⟨j, hj, e1, e2⟩ | ⟨e1, e2, -⟩
      · exact ⟨some j, fun _ => Or.inr ⟨j, hj, rfl, e1, e2⟩⟩
      · exact ⟨none, fun _ => Or.inl ⟨rfl, e1, e2⟩⟩
    · exact ⟨none, fun h => absurd h q⟩
  have hhr : ∀ i : Nat, ∃ h : Nat, i < k → hq_gi sx 168 i = -1 → h ≤ 60 ∧ hq_gi sx 164 i = Int32.ofNat h ∧ hq_gi sm 224 i = Int32.ofNat h := fun i => by
    by_cases q : i < k
    · rcases Fs i q with ⟨j, hj, e1, e2⟩ | ⟨e1, e2, ⟨a, a1, a2, a3, a4⟩, -⟩
      · exact ⟨0, fun _ h => by rw [e1] at h; exact absurd h (d1 j (by omega))⟩
      · exact ⟨a, fun _ _ => ⟨a2, a3, a4⟩⟩
    · exact ⟨0, fun h => absurd h q⟩
  obtain ⟨li, hli⟩ := Classical.axiomOfChoice hli
  obtain ⟨hr, hhr⟩ := Classical.axiomOfChoice hhr
  have L8 : sd_L K li 168 sx1 := fun i hi => by
    rw [ox' _ _ (by omega)]
    rcases hli i (by omega) with ⟨h1, h2, -⟩ | ⟨j, h1, h2, h3, -⟩
    · exact Or.inl ⟨h1, h2⟩
    · exact Or.inr ⟨j, h1, h2, h3⟩
  have L2 : sd_L K li 228 sm := fun i hi => by
    rcases hli i (by omega) with ⟨h1, -, h2⟩ | ⟨j, h1, h2, -, h3⟩
    · exact Or.inl ⟨h1, h2⟩
    · exact Or.inr ⟨j, h1, h2, h3⟩
  have m18 : ∀ i, i < k → hq_gi sm 228 i = -1 → hq_gi sx 168 i = -1 := fun i hi h => by
    rcases hli i hi with ⟨-, h2, -⟩ | ⟨j, h1, -, -, h3⟩
    · exact h2
    · rw [h3] at h; exact absurd h (d1 j (by omega))
  have st : f_X2_standing N sx1 = some (Int32.ofNat (sd li K K).2, sx1) := by
    have := sd_11 (N := N) (by omega) L8 K 0 N (by omega) (by omega)
    simp only [f_X2_standing, kb, Option.bind_some]
    exact this
  obtain ⟨a', -, a2, a3, a4⟩ := lh_X (N := N) (k := k) (sx := sx1) hk (by rw [ox' _ _ (by omega)]; exact k0) (fun i hi => by
    rw [ox' _ _ (by omega), ox' _ _ (by omega)]
    by_cases q : hq_gi sx 168 i = -1
    · exact Or.inr ⟨q, hr i, (hhr i hi q).1, (hhr i hi q).2.1⟩
    · exact Or.inl q) k 0 N 0 (by omega) (by omega) (by omega)
  obtain ⟨s1, s2, s3, s4⟩ := sd_4 (N := N) (a1 := Int32.ofNat i) (a2 := 0) (by omega) (by omega) K 0 N sm (by omega) (by omega) HK L2 (fun i hi => by omega)
  obtain ⟨a, -, b2, b3, b4, b5⟩ := lh_M (N := N) (a1 := Int32.ofNat i) (K := K) (sm := s1) (O := (sd li K K).1) (hr := hr) (by omega) (sd_K_w (fun i => s4 _ _ (by omega)) HK) s3 (fun i hi h => by
    rw [s4 _ _ (by omega)] at h
    rw [s4 _ _ (by omega)]
    exact ⟨(hhr i (by omega) (m18 i (by omega) h)).1, (hhr i (by omega) (m18 i (by omega) h)).2.2⟩) K 0 N 0 (by omega) (by omega) (by omega)
  have haa : a ≤ a' := b4 a' (by omega) (fun i h0 hi h1 h2 => by
    rw [s4 _ _ (by omega)] at h2
    have h3 := m18 i (by omega) h2
    exact a3 i (hr i) (by omega) (by omega) (by rw [ox' _ _ (by omega)]; exact h3) (hhr i (by omega) h3).1 (by rw [ox' _ _ (by omega)]; exact (hhr i (by omega) h3).2.1))
  have o3 : ∀ c x, ¬ (c = 174 ∧ x = 53) → ¬ c = 229 → hq_gi (hq_si s1 174 53 (Int32.ofNat i)) c x = hq_gi sm c x := fun c x h1 h2 => by rw [nb_ii, if_neg h1, s4 c x h2]
  have e49 : hq_gi (hq_si s1 174 53 (Int32.ofNat i)) 174 49 = 0 := by rw [o3 _ _ (by omega) (by omega)]; exact I.1
  refine ⟨k, K, li, a, a', sx1, hq_si s1 174 53 (Int32.ofNat i), p1, r, a4, haa, a2, st, ?_, ?_, ⟨?_, rf, S, F, ?_, ?_, ?_, ?_, ⟨⟨hK, hk, ?_⟩, ?_, ?_, ?_, ?_⟩⟩, fun c x h1 h2 h3 => o3 c x (by omega) (by omega)⟩
  · unfold f_X12_boldsOf
    exact s2.trans b5
  · intro x hx ht h h1 h2 h3
    obtain ⟨-, g1, g2, g3⟩ := (sd_t L2 K (Nat.le_refl _) x).mp ht
    rw [o3 _ _ (by omega) (by omega)] at h3
    have g4 : hq_gi sm 228 x = -1 := by
      rcases hli x hx with ⟨-, -, e⟩ | ⟨j, -, e, -⟩
      · exact e
      · rw [g3] at e; cases e
    have g5 := b3 x (by omega) g1 g2 (by rw [s4 _ _ (by omega)]; exact g4)
    have g6 := hhr x hx (m18 x hx g4)
    rw [g6.2.2] at h3
    have g7 : hr x = h := (nn_inj (by omega) (by omega)).mp h3
    omega
  · exact hr_told_f t2 (fun c i hc => ox c i (by omega) (by omega) (by omega) (by omega)) (fun c i _ => oj c i) (fun c i h1 h2 => o3 c i (by omega) (by omega)) To
  · unfold hl_M at M ⊢
    simp (disch := omega) only [o3]
    exact M
  · rw [e49]; decide
  · unfold hh_M
    rw [e49, m3, m4, m5]
    exact ⟨Or.inr ⟨rfl, by decide⟩, Or.inl ⟨rfl, by decide⟩, Or.inr (Or.inr ⟨by decide, by decide, Or.inl ⟨rfl, rfl⟩⟩)⟩
  · rw [nb_ii, if_pos ⟨rfl, rfl⟩]
  · rw [ox' _ _ (by omega)]; exact k0
  · intro x hx
    have := Fs x hx
    rw [ox' 168 _ (by omega), ox' 164 _ (by omega), ox' 165 _ (by omega), ox' 166 _ (by omega), ox' 167 _ (by omega), o3 228 _ (by omega) (by omega), o3 224 _ (by omega) (by omega), o3 225 _ (by omega) (by omega), o3 226 _ (by omega) (by omega), o3 227 _ (by omega) (by omega)]
    exact this
  · unfold sd_K at HK ⊢
    rw [o3 174 75 (by omega) (by omega), o3 174 74 (by omega) (by omega)]
    exact HK
  · intro x hx
    rw [o3 _ _ (by omega) (by omega)]
    exact L2 x hx
  · intro x hx
    rw [nb_ii, if_neg (fun z => by omega)]
    exact s3 x hx
theorem hs_op_39 (hc : hc_loc HC) (hN : 300 < N) (a1 : Int32) : hq_Sim (hR HC) (f_X11_bolds N a1) (f_X12_bolds N a1) := fun sx sm R => by
  have R2 := hR_th hc (x := 0) R
  obtain ⟨nc, nl, ng, nt, t, bar, fr, to, on, TT⟩ := R.2.2.2.2.2
  obtain ⟨I, T⟩ := hT_th 0 R.2.2.1 TT
  have T0 := T
  obtain ⟨⟨t1, t2, t3⟩, ⟨⟨b1, b2, b3, b4⟩, ⟨c1, c2, -, -, g1, g2, d1, d2⟩, -⟩, -⟩ := T
  have d10 : ¬ (1 : Int32) = 0 := by decide
  have iT : hq_isT t := t2
  rcases hs_isThief (N := N) (a := a1) (by omega) t1 t2 d1 d2 with ⟨i, hi, rfl, e1, e2⟩ | ⟨e1, e2⟩
  · obtain ⟨k, K, li, a, a', sx1, sm1, p1, p2, p3, p4, p5, p6, p7, p8, p9, p10⟩ := bo_prep (N := N) (by omega) hi I T0
    obtain ⟨v, sx', sm', q1, q2, q3, q4⟩ := bo_ten (N := N) (by omega) t2 hi p4 p5 10 0 N N 0 sx1 sm1 (by omega) (by omega) (by omega) p8 p9
    have q1 : f_X2_boldsOf_L12 N N (Int32.ofNat i) (t + 14) (Int32.ofNat a') (Int32.ofNat (sd li K K).2) 0 0 sx1 = some (v, sx') := q1
    have q2 : f_X12_boldsOf_L129 N N (Int32.ofNat i) (Int32.ofNat a) 0 0 sm1 = some (v, sm') := q2
    have ex : f_X11_bolds N (Int32.ofNat i) sx = some (v, sx') := by
      simp only [f_X11_bolds, e1, Option.bind_some, if_neg d10, p1, p2, if_pos iT, p3, f_X2_boldsOf, p6, q1]
    have em : f_X12_bolds N (Int32.ofNat i) sm = some (v, sm') := by
      simp only [f_X12_bolds, nn_pi, e2, Option.bind_some, if_neg d10, p7, q2]
    have kx := f_X11_bolds_fw ex
    have km := f_X12_bolds_fw em
    refine ⟨v, sx', sm', ex, em, hR_gi (sm := (sm'.1, sm.2)) (fun _ _ => rfl) (hR_k (sx := sx) (sm := sm) hc (kx.kp (by decide)) (fun k i hk => ?_) (hm_o_th (hm_o_tr p10 q4)) R)⟩
    rcases hd_split (D := hd_M) (E := hd_Mb) (F := [(174, some 53)]) (by decide) k i hk with h | h
    · exact ⟨((km.kp (D := hd_Mb) (by decide)) k i h).1, rfl, rfl⟩
    · obtain ⟨rfl, rfl⟩ := hd_one h
      exact ⟨q3.trans R.2.2.1.2.2.1.symm, rfl, rfl⟩
  · exact ⟨-1, sx, hq_si sm 174 0 0, by simp only [f_X11_bolds, e1, Option.bind_some, if_true], by simp only [f_X12_bolds, nn_pi, e2, Option.bind_some, if_true], R2⟩
end
