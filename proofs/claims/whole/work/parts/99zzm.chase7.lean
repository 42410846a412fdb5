/-! THE REFERENCE'S CHASE IS LAID -/
section
variable {N n g M : Nat} {nx : Nat → Nat}
theorem ly_st7 {q7 : Int32 → Int32 → hq_S → Option hq_S} {x : Nat} {s : hq_S} (hN : 10300 < N) (eM : M = 10 ^ (g + 1)) (hn : n ≤ 10) (hg : g ≤ 3) (hx : x < M) (F : cm_F n g nx s) : ∃ v s1, f_X12_laysChase_L7_B N q7 (Int32.ofNat g) (Int32.ofNat x) s = q7 (Int32.ofNat g) (Int32.ofNat (x + 1)) (hq_si s1 208 x v) ∧ rb n g (tnx nx) 0 x v ∧ ∀ c i, ¬ c = 211 → hq_gi s1 c i = hq_gi s c i := by
  have hM : M ≤ 10000 := by rw [eM]; exact p10g hg
  have pw : hq_ld s 212 5 (Int32.ofNat g + 1) = some (Int32.ofNat M) := by
    have e : Int32.ofNat g + 1 = Int32.ofNat (g + 1) := nb_add g 1
    rw [eM, e]
    exact cm_p (by omega) F
  have cc : Int32.ofNat x < Int32.ofNat M := (nn_lt (by omega) (by omega)).mpr (by omega)
  have hxM : x < 10 ^ (g + 1) := by rw [← eM]; omega
  obtain ⟨v, s1, r1, r2, r3⟩ := r10 (N := N) (x := x) (by omega) hn hg hxM F
  have F2 : cm_F n g nx s1 := cm_F_k (fun c i h => r2 c i (by omega)) F
  have st : ∀ v, hq_st s1 208 10000 (Int32.ofNat x) v = some (hq_si s1 208 x v) := fun v => nn_st (by omega) (by omega)
  have d10 : ¬ (1 : Int32) = 0 := by decide
  rcases r3 with ⟨rfl, V, D⟩ | ⟨rfl, V⟩
  · have V1 : ∀ j, j < g + 1 → dgs 10 (g + 1) x j < 10 := fun j hj => by have := V j hj; omega
    have ld : hq_ld s1 211 4 (Int32.ofNat g) = some (Int32.ofNat (dgs 10 (g + 1) x g)) := by rw [nn_ld (by omega) (by omega), D g (by omega)]
    obtain ⟨w, w1, w2⟩ := ia (N := N) (p := dgs 10 (g + 1) x) (c := dgs 10 (g + 1) x g) (by omega) hg (fun j hj => by have := V1 j (by omega); omega) (by have := V1 g (by omega); omega) F2 (fun j hj => D j (by omega))
    rcases w2 with ⟨rfl, w2⟩ | ⟨rfl, w2⟩
    · refine ⟨0, s1, ?_, Or.inl ⟨0, Nat.le_refl _, V, ⟨w2, fun i hi => by omega⟩, rfl⟩, r2⟩
      unfold f_X12_laysChase_L7_B
      rw [pw, Option.bind_some, if_pos cc, r1, Option.bind_some, if_neg d10, ld, Option.bind_some, w1, Option.bind_some, if_neg d10, Option.bind_some, st, Option.bind_some, nn_succ]
    · refine ⟨-1, s1, ?_, Or.inr ⟨rfl, fun z => w2 z.2⟩, r2⟩
      unfold f_X12_laysChase_L7_B
      rw [pw, Option.bind_some, if_pos cc, r1, Option.bind_some, if_neg d10, ld, Option.bind_some, w1, Option.bind_some, if_pos rfl, Option.bind_some, st, Option.bind_some, nn_succ]
  · refine ⟨-1, s1, ?_, Or.inr ⟨rfl, fun z => V z.1⟩, r2⟩
    unfold f_X12_laysChase_L7_B
    rw [pw, Option.bind_some, if_pos cc, r1, Option.bind_some, if_pos rfl, Option.bind_some, st, Option.bind_some, nn_succ]
theorem ly_7 (hN : 10300 < N) (eM : M = 10 ^ (g + 1)) (hn : n ≤ 10) (hg : g ≤ 3) : ∀ (q x m : Nat) (s : hq_S), x + q = M → q < m → cm_F n g nx s → (∀ y, y < x → rb n g (tnx nx) 0 y (hq_gi s 208 y)) → ∃ s', f_X12_laysChase_L7 N m (Int32.ofNat g) (Int32.ofNat x) s = f_X12_laysChase_L69 N N (Int32.ofNat g) (if 0 < g then 1 else 0) 1 s' ∧ (∀ y, y < M → rb n g (tnx nx) 0 y (hq_gi s' 208 y)) ∧ ∀ c i, ¬ c = 208 → ¬ c = 211 → hq_gi s' c i = hq_gi s c i := by
  have hM : M ≤ 10000 := by rw [eM]; exact p10g hg
  intro q
  induction q with
  | zero =>
    intro x m s hx hm F h
    obtain ⟨m, rfl⟩ : ∃ j, m = j + 1 := ⟨m - 1, by omega⟩
    have pw : hq_ld s 212 5 (Int32.ofNat g + 1) = some (Int32.ofNat M) := by
      have e : Int32.ofNat g + 1 = Int32.ofNat (g + 1) := nb_add g 1
      rw [eM, e]
      exact cm_p (by omega) F
    have cc : ¬ Int32.ofNat x < Int32.ofNat M := by rw [nn_lt (by omega) (by omega)]; omega
    refine ⟨s, ?_, fun y hy => h y (by omega), fun _ _ _ _ => rfl⟩
    rw [f_X12_laysChase_L7_s]
    unfold f_X12_laysChase_L7_B
    rw [pw, Option.bind_some, if_neg cc]
    by_cases z : 0 < g
    · have c0 : 0 < Int32.ofNat g := by rw [nb_0, nn_lt (by omega) (by omega)]; exact z
      rw [if_pos c0, if_pos z, Option.bind_some]
    · have c0 : ¬ 0 < Int32.ofNat g := by rw [nb_0, nn_lt (by omega) (by omega)]; exact z
      rw [if_neg c0, if_neg z, Option.bind_some]
  | succ q ih =>
    intro x m s hx hm F h
    obtain ⟨m, rfl⟩ : ∃ j, m = j + 1 := ⟨m - 1, by omega⟩
    obtain ⟨v, s1, e1, e2, e3⟩ := ly_st7 (N := N) (q7 := f_X12_laysChase_L7 N m) hN eM hn hg (show x < M by omega) F
    obtain ⟨s', f1, f2, f3⟩ := ih (x + 1) m (hq_si s1 208 x v) (by omega) (by omega) (cm_F_k (fun c i h => by rw [nb_ii, if_neg (fun z => by omega), e3 _ _ (by omega)]) F) (fun y hy => by
      rw [nb_ii]
      by_cases z : y = x
      · rw [if_pos ⟨rfl, z⟩, z]; exact e2
      · rw [if_neg (fun w => z w.2), e3 _ _ (by omega)]; exact h y (by omega))
    refine ⟨s', ?_, f2, fun c i h1 h2 => by rw [f3 c i h1 h2, nb_ii, if_neg (fun z => h1 z.1), e3 c i h2]⟩
    rw [← f1, ← e1, f_X12_laysChase_L7_s]
theorem cF_ofM {k : Nat} (hn : n ≤ 10) (h : ∀ y, y < 10 ^ (g + 1) → cP n g (cL n g (tnx nx) (k + 1)) y → cP n g (cL n g (tnx nx) k) y) : cF n g (tnx nx) k := fun i p c hp hc => cL_fix (fun p c hp hc w => by
  have pp : ∀ j, j < g + 1 → pud p g c j < n := fun j hj => by
    by_cases e : j = g
    · rw [e, pud_i]; exact hc
    · rw [pud_n e]; exact hp j (by omega)
  have e2 := dgs_enc (n := 10) (p := pud p g c) (g + 1) (fun j hj => by have := pp j hj; omega)
  have el := enc_lt (n := 10) (p := pud p g c) (g + 1) (fun j hj => by have := pp j hj; omega)
  have eg : dgs 10 (g + 1) (enc 10 (pud p g c) (g + 1)) g = c := by rw [e2 g (by omega), pud_i]
  have cg : ∀ j, j < g → dgs 10 (g + 1) (enc 10 (pud p g c) (g + 1)) j = p j := fun j hj => by rw [e2 j (by omega), pud_n (by omega)]
  have h1 := h _ el ⟨fun j hj => by rw [e2 j hj]; exact pp j hj, by rw [eg]; exact (cL_cg cg (k + 1) c).mpr w⟩
  have h2 := h1.2
  rw [eg] at h2
  exact (cL_cg cg k c).mp h2) i p c hp hc
theorem ly_69 (hN : 10300 < N) (eM : M = 10 ^ (g + 1)) (hn : n ≤ 10) (hg : g ≤ 3) (hnx : ∀ c, nx c < 2 ^ n) : ∀ (q k m : Nat) (s : hq_S), k + q = 10001 → q + 1 < m → cm_F n g nx s → (∀ y, y < M → rb n g (tnx nx) k y (hq_gi s 208 y)) → k + 1 ≤ cn (fun y => @decide (cP n g (cL n g (tnx nx) k) y) (Classical.propDecidable _)) M → ∃ K s', K < 20000 ∧ f_X12_laysChase_L69 N m (Int32.ofNat g) 1 (Int32.ofNat (k + 1)) s = some s' ∧ (∀ y, y < M → rb n g (tnx nx) K y (hq_gi s' 208 y)) ∧ cF n g (tnx nx) K ∧ ∀ c i, ¬ (208 ≤ c ∧ c ≤ 211) → hq_gi s' c i = hq_gi s c i := by
  have hM : M ≤ 10000 := by rw [eM]; exact p10g hg
  have d10 : ¬ (1 : Int32) = 0 := by decide
  intro q
  induction q with
  | zero =>
    intro k m s hk hm F R hc
    have := cn_le (fun y => @decide (cP n g (cL n g (tnx nx) k) y) (Classical.propDecidable _)) M
    omega
  | succ q ih =>
    intro k m s hk hm F R hc
    obtain ⟨m, rfl⟩ : ∃ j, m = j + 1 := ⟨m - 1, by omega⟩
    have hc2 := cn_le (fun y => @decide (cP n g (cL n g (tnx nx) k) y) (Classical.propDecidable _)) M
    obtain ⟨s1, e1, e2, e3⟩ := ly_78 (N := N) (q69 := f_X12_laysChase_L69 N m) (k := k) (a2 := 0) (a3 := Int32.ofNat (k + 1)) hN eM hn hg (by omega) hnx M 0 N s (by omega) (by omega) F (fun x hx => R x (by rw [eM]; exact hx)) (fun y hy => by omega)
    have e1 : f_X12_laysChase_L78 N (f_X12_laysChase_L69 N m) N (Int32.ofNat g) 0 (Int32.ofNat (k + 1)) 0 s = _ := e1
    have F1 : cm_F n g nx s1 := cm_F_k (fun c i h => e3 c i (by omega) (by omega)) F
    obtain ⟨s2, f1, f2, f3⟩ := sd_130 (N := N) (q69 := f_X12_laysChase_L69 N m) (k := k) (a2 := 0) (a3 := Int32.ofNat (k + 1)) hN eM hn hg hnx g 0 N s1 (by omega) (by omega) F1 (fun x hx => by
      rcases e2 x hx with ⟨z1, z2⟩ | ⟨z1, z2⟩
      · exact Or.inl ⟨z1, z2.1, cH_0.mpr z2.2⟩
      · exact Or.inr ⟨z1, fun z => z2 ⟨z.1, cH_0.mp z.2⟩⟩)
    have f1 : f_X12_laysChase_L130 N (f_X12_laysChase_L69 N m) N (Int32.ofNat g) 0 (Int32.ofNat (k + 1)) 0 s1 = _ := f1
    have k2 : ∀ c i, ¬ c = 209 → ¬ c = 210 → ¬ c = 211 → hq_gi s2 c i = hq_gi s c i := fun c i h1 h2 h3 => (f3 c i h1 h2 h3).trans (e3 c i h1 h3)
    obtain ⟨a2', s3, g1, g2, g3, g4, g5⟩ := ly_151 (N := N) (q69 := f_X12_laysChase_L69 N m) (k := k) eM hg (by omega) M 0 N 0 s2 (by omega) (by omega) (cm_F_k (fun c i h => k2 c i (by omega) (by omega) (by omega)) F) f2 (fun y hy => by rw [if_neg (by omega), k2 _ _ (by omega) (by omega) (by omega)]; exact R y hy) (Or.inl rfl) ⟨fun h => absurd h (by decide), fun ⟨y, h, _⟩ => by omega⟩
    have g1 : f_X12_laysChase_L151 N (f_X12_laysChase_L69 N m) N (Int32.ofNat g) 0 (Int32.ofNat (k + 1)) 0 s2 = _ := g1
    have step : f_X12_laysChase_L69 N (m + 1) (Int32.ofNat g) 1 (Int32.ofNat (k + 1)) s = f_X12_laysChase_L69 N m (Int32.ofNat g) a2' (Int32.ofNat (k + 2)) s3 := by
      rw [← g1, ← f1, ← e1, f_X12_laysChase_L69_s]
      unfold f_X12_laysChase_L69_B
      rw [if_neg d10]
    have kk : ∀ c i, ¬ (208 ≤ c ∧ c ≤ 211) → hq_gi s3 c i = hq_gi s c i := fun c i h => (g5 c i (by omega)).trans (k2 c i (by omega) (by omega) (by omega))
    rcases g3 with rfl | rfl
    · obtain ⟨m, rfl⟩ : ∃ j, m = j + 1 := ⟨m - 1, by omega⟩
      have fx : cF n g (tnx nx) k := cF_ofM hn fun y hy h => Classical.byContradiction fun z => absurd (g4.mpr ⟨y, by rw [eM]; exact hy, z, h⟩) (by decide)
      refine ⟨k + 1, s3, by omega, ?_, g2, fun i p c hp hc h => cL_up (fx i p c hp hc h), kk⟩
      rw [step, f_X12_laysChase_L69_s]
      unfold f_X12_laysChase_L69_B
      rw [if_pos rfl]
    · have lt := cn_d (P := cP n g (cL n g (tnx nx) k)) (Q := cP n g (cL n g (tnx nx) (k + 1))) (m := M) (fun i _ h => ⟨h.1, cL_up h.2⟩) (g4.mp rfl)
      obtain ⟨K, s', h0, h1, h2, h3, h4⟩ := ih (k + 1) m s3 (by omega) (by omega) (cm_F_k (fun c i h => kk c i (by omega)) F) g2 (by omega)
      exact ⟨K, s', h0, step.trans h1, h2, h3, fun c i h => (h4 c i h).trans (kk c i h)⟩
/-- all of it -/
def cM (n g : Nat) (nx : Nat → Nat) (K : Nat) (s : hq_S) : Prop := cm_F n g nx s ∧ (∀ y, y < 10 ^ (g + 1) → rb n g (tnx nx) K y (hq_gi s 208 y)) ∧ cF n g (tnx nx) K
theorem dgs_0 : ∀ g j, dgs 10 g 0 j = 0
  | 0, _ => rfl
  | g + 1, j => by
    rw [dgs]
    split
    · rfl
    · rw [Nat.zero_div]; exact dgs_0 g j
theorem ly_all {s : hq_S} (hN : 10300 < N) (h1 : 1 ≤ n) (hn : n ≤ 10) (g1 : 1 ≤ g) (hg : g ≤ 3) (hnx : ∀ c, nx c < 2 ^ n) (L : hl_R n nx s) (P : ∀ i, i < 5 → hq_gi s 212 i = Int32.ofNat (10 ^ i)) : ∃ K s', K < 20000 ∧ f_X12_laysChase N (Int32.ofNat g) s = some s' ∧ cM n g nx K s' ∧ ∀ c i, ¬ (208 ≤ c ∧ c ≤ 211) → ¬ (c = 174 ∧ i = 60) → hq_gi s' c i = hq_gi s c i := by
  have ow : ∀ c i, ¬ (c = 174 ∧ i = 60) → hq_gi (hq_si s 174 60 (Int32.ofNat g)) c i = hq_gi s c i := fun c i h => by rw [nb_ii, if_neg h]
  have F : cm_F n g nx (hq_si s 174 60 (Int32.ofNat g)) := ⟨⟨by rw [ow _ _ (by omega)]; exact L.1, fun c hc => by rw [ow _ _ (by omega)]; exact L.2 c hc⟩, by rw [nb_ii, if_pos ⟨rfl, rfl⟩], fun i hi => by rw [ow _ _ (by omega)]; exact P i hi⟩
  obtain ⟨M, eM⟩ : ∃ M, M = 10 ^ (g + 1) := ⟨_, rfl⟩
  have hM : M ≤ 10000 := by rw [eM]; exact p10g hg
  have M0 : 0 < M := by rw [eM]; exact Nat.pow_pos (by omega)
  obtain ⟨s1, e1, e2, e3⟩ := ly_7 (N := N) hN eM hn hg M 0 N (hq_si s 174 60 (Int32.ofNat g)) (by omega) (by omega) F (fun y hy => by omega)
  have e1 : f_X12_laysChase_L7 N N (Int32.ofNat g) 0 (hq_si s 174 60 (Int32.ofNat g)) = _ := e1
  rw [if_pos (by omega)] at e1
  have F1 : cm_F n g nx s1 := cm_F_k (fun c i h => e3 c i (by omega) (by omega)) F
  obtain ⟨K, s2, f0, f1, f2, f3, f4⟩ := ly_69 (N := N) hN eM hn hg hnx 10001 0 N s1 (by omega) (by omega) F1 e2 (by
    have h := cn_d (P := fun _ => False) (Q := cP n g (cL n g (tnx nx) 0)) (m := M) (fun i _ h => h.elim) ⟨0, M0, fun h => h, fun j hj => by rw [dgs_0]; omega, 0, by omega, by rw [dgs_0, dgs_0]⟩
    omega)
  have f1 : f_X12_laysChase_L69 N N (Int32.ofNat g) 1 1 s1 = some s2 := f1
  refine ⟨K, s2, f0, ?_, ⟨cm_F_k (fun c i h => f4 c i (by omega)) F1, fun y hy => f2 y (by rw [eM]; exact hy), f3⟩, fun c i h1 h2 => by rw [f4 c i h1, e3 _ _ (by omega) (by omega), ow c i h2]⟩
  unfold f_X12_laysChase
  rw [nn_pi, Option.bind_some, e1, f1]
theorem ly_none {s : hq_S} (hN : 10300 < N) (hn : n ≤ 10) (L : hl_R n nx s) (P : ∀ i, i < 5 → hq_gi s 212 i = Int32.ofNat (10 ^ i)) : ∃ s', f_X12_laysChase N 0 s = some s' ∧ cm_F n 0 nx s' ∧ ∀ c i, ¬ (208 ≤ c ∧ c ≤ 211) → ¬ (c = 174 ∧ i = 60) → hq_gi s' c i = hq_gi s c i := by
  have ow : ∀ c i, ¬ (c = 174 ∧ i = 60) → hq_gi (hq_si s 174 60 0) c i = hq_gi s c i := fun c i h => by rw [nb_ii, if_neg h]
  have F : cm_F n 0 nx (hq_si s 174 60 0) := ⟨⟨by rw [ow _ _ (by omega)]; exact L.1, fun c hc => by rw [ow _ _ (by omega)]; exact L.2 c hc⟩, by rw [nb_ii, if_pos ⟨rfl, rfl⟩]; rfl, fun i hi => by rw [ow _ _ (by omega)]; exact P i hi⟩
  obtain ⟨s1, e1, -, e3⟩ := ly_7 (N := N) (g := 0) (M := 10) hN (by decide) hn (by omega) 10 0 N (hq_si s 174 60 0) (by omega) (by omega) F (fun y hy => by omega)
  have e1 : f_X12_laysChase_L7 N N 0 0 (hq_si s 174 60 0) = f_X12_laysChase_L69 N N 0 (if 0 < 0 then 1 else 0) 1 s1 := e1
  rw [if_neg (by omega)] at e1
  obtain ⟨N', rfl⟩ : ∃ k, N = k + 1 := ⟨N - 1, by omega⟩
  refine ⟨s1, ?_, cm_F_k (fun c i h => e3 c i (by omega) (by omega)) F, fun c i h1 h2 => by rw [e3 _ _ (by omega) (by omega), ow c i h2]⟩
  unfold f_X12_laysChase
  rw [nn_pi, Option.bind_some, e1, f_X12_laysChase_L69_s]
  unfold f_X12_laysChase_L69_B
  rw [if_pos rfl]
end
