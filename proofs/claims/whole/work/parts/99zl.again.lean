/-! FROM THE TEXT, WITH A BOLDNESS TRIED: both begin alike -/
section
variable {N nc nl ng nt t : Nat} {fr to on : Nat → Nat} {sx sm : hq_S}
theorem hb_again {i b : Nat} (hN : 100 < N) (T : hr_told nc nl ng nt t sx sm) (t2 : t = 2 ∨ t = 25) (rf : hq_gr sx 113 0 = t ∧ hq_gr sx 113 1 = 108 ∧ hq_gr sx 113 2 = 94) (S : hl_S 108 nc (ly_nx fr to on 0 false nl) sx) (F : ∀ a b, a < nc → b < nc → hq_gi sx 110 (10 * a + b) = Int32.ofNat (bf_far (ly_nx fr to on 0 false nl) nc a b)) (M : hl_M nl nc fr to on sm) (n4 : ¬ hq_gi sm 174 49 = 4) (Mo : hh_M 0 sx sm) (hi : i < nt) (hb : b ≤ 9) (e53 : hq_gi sm 174 53 = Int32.ofNat i) (e54 : hq_gi sm 174 54 = Int32.ofNat b) : ∃ sx' sm', f_X3_restart N (t + 14) (Int32.ofNat i) (Int32.ofNat b) sx = some sx' ∧ f_X12_starts N 1 sm = some sm' ∧ hh_P nc nl ng nt t 108 94 1 fr to on 0 false 0 sm sx' sm' := by
  have T0 := T
  obtain ⟨⟨b1, b2, b3, b4⟩, ⟨n1, n2, -⟩, cr, cz, -, gd, th, -, ⟨d, hd, sd1, sd2⟩, ⟨z0, z2, z3, z4⟩, -⟩ := T
  obtain ⟨s1, e1, k1⟩ := hk_copyFrom (N := N) (a := 94) (b := t + 14) (by omega) sx
  obtain ⟨sm', e2, ⟨s6, s7, s8⟩, s9, s0, s3, em, O⟩ := st_all (N := N) (l := 1) (by omega) (by omega) b1 n2
  have e2 : f_X12_starts N 1 sm = some sm' := e2
  obtain ⟨kx, kj, kr, k0, k2, kl, kc, kg, kt⟩ := k1
  have iN : hq_isN 94 := by decide
  have st : hq_st s1 100 4 (Int32.ofNat i) (Int32.ofNat b) = some (hq_si s1 100 i (Int32.ofNat b)) := nn_st (by omega) (by omega)
  have r2 : hq_gr s1 113 2 = 94 := by rw [kr]; exact rf.2.2
  have ex : ∀ c i, (c < 94 ∨ 102 < c) → hq_gi (hq_si s1 100 i (Int32.ofNat b)) c i = hq_gi sx c i := fun c i hc => by rw [nb_ii, if_neg (fun z => by omega)]; exact kx c i (by omega)
  have o1 : ∀ c j, ¬ c = 100 → hq_gi (hq_si s1 100 i (Int32.ofNat b)) c j = hq_gi s1 c j := fun c j h => by rw [nb_ii, if_neg (fun z => h z.1)]
  have oj : ∀ c j, hq_gj (hq_si s1 100 i (Int32.ofNat b)) c j = hq_gj s1 c j := fun _ _ => rfl
  have orr : ∀ c j, hq_gr (hq_si s1 100 i (Int32.ofNat b)) c j = hq_gr s1 c j := fun _ _ => rfl
  have ex : ∀ c j, (c < 94 ∨ 102 < c) → hq_gi (hq_si s1 100 i (Int32.ofNat b)) c j = hq_gi sx c j := fun c j hc => by rw [o1 c j (by omega)]; exact kx c j (by omega)
  refine ⟨hq_si s1 100 i (Int32.ofNat b), sm', ?_, e2, ?_⟩
  · simp only [f_X3_restart, rf.2.2, if_pos iN, e1, Option.bind_some, r2, Nat.reduceAdd, st]
  · refine ⟨hr_told_f t2 (fun c j hc => ex c j (by omega)) (fun c j hc => by rw [oj]; exact kj c j (by omega)) (fun c j h1 h2 => em c j (by omega)) T0, ⟨t2, Or.inr rfl, Or.inr rfl⟩, ⟨by rw [orr, kr]; exact rf.1, by rw [orr, kr]; exact rf.2.1, by rw [orr, kr]; exact rf.2.2⟩, ⟨by rw [ex _ _ (by omega)]; exact S.1, fun c hc => by rw [ex _ _ (by omega)]; exact S.2 c hc⟩, fun a b ha hb => by rw [ex _ _ (by omega)]; exact F a b ha hb, ⟨?_, by rw [s8]; rfl, by omega, ⟨fun h => (by cases h), fun h => absurd (by rw [em _ _ (by omega)] at h; exact h) n4⟩⟩, ?_, hh_M_f (fun j => ex _ _ (by omega)) (em _ _ (by omega)) (em _ _ (by omega)) Mo, O⟩
    · unfold hl_M at M ⊢
      simp (disch := omega) only [em]
      exact M
    · refine ⟨?_, ⟨d, by omega, ?_, ?_⟩, ⟨0, by omega, ?_, ?_⟩, fun j hj => ?_, fun j h1 h2 => ?_, fun j hj => ⟨?_, ⟨0, by omega, Or.inl rfl, ?_, ?_⟩, ?_⟩, fun j hj => ⟨?_, ?_, ?_, Or.inl ⟨?_, ?_⟩⟩, fun j h1 h2 => (s3 j h2).2.1⟩
      · rw [o1 _ _ (by omega), k0, z0, s6]
      · rw [oj, kl]; exact sd1
      · rw [s7]; exact sd2
      · rw [o1 _ _ (by omega), k2]; exact z2
      · rw [s8]; rfl
      · obtain ⟨x, x1, x2, x3⟩ := (cr j hj).2.2
        refine ⟨x, by omega, ?_, ?_⟩
        · rw [o1 _ _ (by omega), kc j (by omega)]; exact x2
        · rw [s9 j (by omega), if_pos hj]; exact x3
      · rw [s9 j h2, if_neg (by omega)]
      · obtain ⟨x, x1, x2, x3⟩ := (gd j hj).2.1
        refine ⟨x, x1, ?_, ?_⟩
        · rw [o1 _ _ (by omega), (kg j (by omega)).1]; exact x2
        · rw [(s0 j (by omega)).1]; exact x3
      · rw [o1 _ _ (by omega), (kg j (by omega)).2.1]; exact (z3 j (by omega)).1
      · rw [(s0 j (by omega)).2.1]; rfl
      · rw [o1 _ _ (by omega), (kg j (by omega)).2.2, (s0 j (by omega)).2.2]; exact (z3 j (by omega)).2
      · obtain ⟨x, x1, x2, x3⟩ := (th j hj).2.1
        refine ⟨x, x1, ?_, ?_⟩
        · rw [o1 _ _ (by omega), (kt j (by omega)).1]; exact x2
        · rw [(s3 j (by omega)).1]; exact x3
      · have ij := nb_eq (show j < 2147483648 by omega) (show i < 2147483648 by omega)
        unfold hn_bold
        rw [em _ _ (by omega), em _ _ (by omega), em _ _ (by omega), e53, e54]
        by_cases q : j = i
        · refine ⟨b, hb, ?_, ?_⟩
          · rw [nb_ii, if_pos ⟨rfl, q⟩]
          · rw [if_pos (by rw [q])]
        · obtain ⟨x, x1, x2, x3⟩ := (th j hj).2.2
          refine ⟨x, x1, ?_, ?_⟩
          · rw [nb_ii, if_neg (fun z => q z.2), (kt j (by omega)).2.1]; exact x2
          · rw [if_neg (by rw [ij]; exact q)]; exact x3
      · rw [o1 _ _ (by omega), (kt j (by omega)).2.2.1, (s3 j (by omega)).2.1]; exact (z4 j (by omega)).1
      · rw [o1 _ _ (by omega), (kt j (by omega)).2.2.2]; exact (z4 j (by omega)).2
      · exact (s3 j (by omega)).2.2
end
