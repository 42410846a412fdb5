/-! WRITES THAT KEEP WHAT BOTH HAVE IN COMMON -/
section
variable {nc nl ng nt t u k l : Nat} {nx : Nat → Nat} {fa : Nat → Nat → Nat} {o sx sx' sm sm' : hq_S}
theorem hh_S_f (ex : ∀ c i, (c < 76 ∨ 103 ≤ c) → hq_gi sx' c i = hq_gi sx c i) (er : ∀ c i, hq_gr sx' c i = hq_gr sx c i) (ej : ∀ i, hq_gj sx' (t + 14) i = hq_gj sx (t + 14) i) (em : ∀ c i, (176 ≤ c ∧ c ≤ 193 ∨ 206 ≤ c) → hq_gi sm' c i = hq_gi sm c i) (h : hh_S nc nl ng nt t u k nx fa sx sm) : hh_S nc nl ng nt t u k nx fa sx' sm' := by
  obtain ⟨h1, h2, h3, h4, h5, h6, h7, h8⟩ := h
  have ht : t ≤ 25 := by omega
  have hu : 103 ≤ u := by omega
  refine ⟨?_, h2, ?_, h4, ?_, ?_, ?_, ?_⟩
  · unfold hr_told hr_rule at h1 ⊢
    simp (disch := omega) only [ex, ej, em]
    exact h1
  · simp only [er]; exact h3
  · unfold hl_S at h5 ⊢; simp (disch := omega) only [ex]; exact h5
  · unfold hl_R at h6 ⊢; simp (disch := omega) only [em]; exact h6
  · simp (disch := omega) only [ex]; exact h7
  · simp (disch := omega) only [em]; exact h8
/-- how hours go: by numbers (bn 1) or as it goes, and what is tried otherwise -/
def hh_M (bn : Int32) (sx sm : hq_S) : Prop :=
  ((hq_gi sx 113 5 = 0 ∧ hq_gi sm 174 49 = 3) ∨ (hq_gi sx 113 5 = 1 ∧ ¬ hq_gi sm 174 49 = 3)) ∧
  ((hq_gi sx 113 4 = -1 ∧ ¬ hq_gi sm 174 49 = 2) ∨ (hq_gi sm 174 49 = 2 ∧ hq_gi sx 113 4 = hq_gi sm 174 50)) ∧
  ((hq_gi sx 113 3 = 2 ∧ hq_gi sm 174 49 = 5) ∨ (hq_gi sx 113 3 = 3 ∧ hq_gi sm 174 49 = 1) ∨ (¬ hq_gi sm 174 49 = 5 ∧ ¬ hq_gi sm 174 49 = 1 ∧ ((hq_gi sx 113 3 = 1 ∧ bn = 0) ∨ (hq_gi sx 113 3 = 0 ∧ bn = 1))))
/-- a place of the reference's rows that belongs to its town number l -/
def hm_sl (l c i : Nat) : Prop := (196 ≤ c ∧ c ≤ 198 ∧ i = l) ∨ (c = 199 ∧ 10 * l ≤ i ∧ i < 10 * l + 10) ∨ (200 ≤ c ∧ c ≤ 202 ∧ 3 * l ≤ i ∧ i < 3 * l + 3) ∨ (203 ≤ c ∧ c ≤ 205 ∧ 4 * l ≤ i ∧ i < 4 * l + 4)
/-- the other towns are as in o -/
def hm_o (l : Nat) (o s : hq_S) : Prop := ∀ c i, 196 ≤ c → c ≤ 205 → ¬ hm_sl l c i → hq_gi s c i = hq_gi o c i
theorem hm_o_w {l d j : Nat} {o s : hq_S} {y : Int32} (hs : hm_sl l d j) (h : hm_o l o s) : hm_o l o (hq_si s d j y) := fun c i h1 h2 h3 => by
  rw [nb_ii, if_neg (fun q => h3 (by rw [q.1, q.2]; exact hs))]
  exact h c i h1 h2 h3
/-- all that hours rest on -/
def hh_C (nc nl ng nt t u k l : Nat) (nx : Nat → Nat) (fa : Nat → Nat → Nat) (bn : Int32) (o sx sm : hq_S) : Prop := hh_S nc nl ng nt t u k nx fa sx sm ∧ hn_N nc ng nt k l sx sm ∧ hh_M bn sx sm ∧ hm_o l o sm
theorem hh_M_f {bn : Int32} (ex : ∀ i, hq_gi sx' 113 i = hq_gi sx 113 i) (e1 : hq_gi sm' 174 49 = hq_gi sm 174 49) (e2 : hq_gi sm' 174 50 = hq_gi sm 174 50) (h : hh_M bn sx sm) : hh_M bn sx' sm' := by
  unfold hh_M at h ⊢
  simp only [ex, e1, e2]
  exact h
theorem hh_C_e {bn : Int32} (hx : hx_e t sx sx') (hm : hm_e sm sm') (h : hh_C nc nl ng nt t u k l nx fa bn o sx sm) : hh_C nc nl ng nt t u k l nx fa bn o sx' sm' := by
  obtain ⟨S, W, M, O⟩ := h
  have ht := S.2.1
  exact ⟨hh_S_e hx hm S, hn_N_e (by omega) (by omega) (by omega) hx hm W, hh_M_f (fun i => hx.1 _ _) (hm _ _ (by omega)) (hm _ _ (by omega)) M, fun c i h1 h2 h3 => (hm _ _ (by omega)).trans (O c i h1 h2 h3)⟩
/-- a write into the night's rows keeps all but the night -/
theorem hh_C_w {bn x y : Int32} {c i d j : Nat} (hc : 76 ≤ c ∧ c < 103) (hd : 194 ≤ d ∧ d < 206) (hs : hm_sl l d j) (W : hn_N nc ng nt k l (hq_si sx c i x) (hq_si sm d j y)) (h : hh_C nc nl ng nt t u k l nx fa bn o sx sm) : hh_C nc nl ng nt t u k l nx fa bn o (hq_si sx c i x) (hq_si sm d j y) := by
  obtain ⟨S, -, M, O⟩ := h
  refine ⟨hh_S_f (fun a b q => nn_gk (by omega)) (fun _ _ => rfl) (fun _ => rfl) (fun a b q => nn_gk (by omega)) S, W, hh_M_f (fun i => nn_gk (by omega)) (nn_gk (by omega)) (nn_gk (by omega)) M, hm_o_w hs O⟩
theorem hn_thief {i b : Nat} (hk : k = 76 ∨ k = 94) (hi : i < nt) (hb : b < nc) (h : hn_N nc ng nt k l sx sm) : hn_N nc ng nt k l (hq_si sx (k + 5) i (Int32.ofNat b)) (hq_si sm 203 (4 * l + i) (Int32.ofNat b)) := by
  unfold hn_N hn_bold at h ⊢
  simp (disch := omega) only [nn_gk, nb_ij]
  obtain ⟨h1, h2, h3, h4, h5, h6, h7, h8⟩ := h
  refine ⟨h1, h2, h3, h4, h5, h6, fun j hj => ⟨?_, (h7 j hj).2⟩, h8⟩
  rw [nb_ii, nb_ii]
  by_cases q : j = i
  · rw [if_pos ⟨rfl, q⟩, if_pos ⟨rfl, by omega⟩]
    exact ⟨b, hb, rfl, rfl⟩
  · rw [if_neg (fun z => q z.2), if_neg (fun z => q (by omega))]
    exact (h7 j hj).1
theorem hn_guard {i b : Nat} (hk : k = 76 ∨ k = 94) (hi : i < ng) (hb : b < nc) (h : hn_N nc ng nt k l sx sm) : hn_N nc ng nt k l (hq_si sx (k + 2) i (Int32.ofNat b)) (hq_si sm 200 (3 * l + i) (Int32.ofNat b)) := by
  unfold hn_N hn_bold at h ⊢
  simp (disch := omega) only [nn_gk, nb_ij]
  obtain ⟨h1, h2, h3, h4, h5, h6, h7, h8⟩ := h
  refine ⟨h1, h2, h3, h4, h5, fun j hj => ⟨?_, (h6 j hj).2⟩, h7, h8⟩
  rw [nb_ii, nb_ii]
  by_cases q : j = i
  · rw [if_pos ⟨rfl, q⟩, if_pos ⟨rfl, by omega⟩]
    exact ⟨b, hb, rfl, rfl⟩
  · rw [if_neg (fun z => q z.2), if_neg (fun z => q (by omega))]
    exact (h6 j hj).1
theorem hn_aim {i a b : Nat} (hk : k = 76 ∨ k = 94) (hi : i < ng) (ha : a < 8) (hb : hq_gi sm 185 i = Int32.ofNat b) (hab : a < b ∧ b ≤ 8) (h : hn_N nc ng nt k l sx sm) : hn_N nc ng nt k l (hq_si sx (k + 3) i (Int32.ofNat a)) (hq_si sm 201 (3 * l + i) (Int32.ofNat a)) := by
  unfold hn_N hn_bold at h ⊢
  simp (disch := omega) only [nn_gk, nb_ij]
  obtain ⟨h1, h2, h3, h4, h5, h6, h7, h8⟩ := h
  refine ⟨h1, h2, h3, h4, h5, fun j hj => ⟨(h6 j hj).1, ?_, (h6 j hj).2.2⟩, h7, h8⟩
  rw [nb_ii, nb_ii]
  by_cases q : j = i
  · rw [if_pos ⟨rfl, q⟩, if_pos ⟨rfl, by omega⟩]
    subst q
    exact ⟨a, ha, Or.inr ⟨b, hb, hab⟩, rfl, rfl⟩
  · rw [if_neg (fun z => q z.2), if_neg (fun z => q (by omega))]
    exact (h6 j hj).2.1
theorem hn_caught {i g : Nat} (hk : k = 76 ∨ k = 94) (hi : i < nt) (hg : g < ng) (h : hn_N nc ng nt k l sx sm) : hn_N nc ng nt k l (hq_si sx (k + 8) i (Int32.ofNat g)) (hq_si sm 205 (4 * l + i) (Int32.ofNat g)) := by
  unfold hn_N hn_bold at h ⊢
  simp (disch := omega) only [nn_gk, nb_ij]
  obtain ⟨h1, h2, h3, h4, h5, h6, h7, h8⟩ := h
  refine ⟨h1, h2, h3, h4, h5, h6, fun j hj => ⟨(h7 j hj).1, (h7 j hj).2.1, (h7 j hj).2.2.1, ?_⟩, h8⟩
  rw [nb_ii, nb_ii]
  by_cases q : j = i
  · rw [if_pos ⟨rfl, q⟩, if_pos ⟨rfl, by omega⟩]
    exact Or.inr ⟨g, hg, rfl, rfl⟩
  · rw [if_neg (fun z => q z.2), if_neg (fun z => q (by omega))]
    exact (h7 j hj).2.2.2
theorem hn_catch {i : Nat} {x : Int32} (hk : k = 76 ∨ k = 94) (hi : i < ng) (h : hn_N nc ng nt k l sx sm) : hn_N nc ng nt k l (hq_si sx (k + 4) i x) (hq_si sm 202 (3 * l + i) x) := by
  unfold hn_N hn_bold at h ⊢
  simp (disch := omega) only [nn_gk, nb_ij]
  obtain ⟨h1, h2, h3, h4, h5, h6, h7, h8⟩ := h
  refine ⟨h1, h2, h3, h4, h5, fun j hj => ⟨(h6 j hj).1, (h6 j hj).2.1, ?_⟩, h7, h8⟩
  rw [nb_ii, nb_ii]
  by_cases q : j = i
  · rw [if_pos ⟨rfl, q⟩, if_pos ⟨rfl, by omega⟩]
  · rw [if_neg (fun z => q z.2), if_neg (fun z => q (by omega))]
    exact (h6 j hj).2.2
theorem hn_had {i : Nat} {x : Int32} (hk : k = 76 ∨ k = 94) (hnt : nt ≤ 4) (hi : i < nt) (h : hn_N nc ng nt k l sx sm) : hn_N nc ng nt k l (hq_si sx (k + 7) i x) (hq_si sm 204 (4 * l + i) x) := by
  unfold hn_N hn_bold at h ⊢
  simp (disch := omega) only [nn_gk, nb_ij]
  obtain ⟨h1, h2, h3, h4, h5, h6, h7, h8⟩ := h
  refine ⟨h1, h2, h3, h4, h5, h6, fun j hj => ⟨(h7 j hj).1, (h7 j hj).2.1, ?_, (h7 j hj).2.2.2⟩, fun j hj hj' => ?_⟩
  · rw [nb_ii, nb_ii]
    by_cases q : j = i
    · rw [if_pos ⟨rfl, q⟩, if_pos ⟨rfl, by omega⟩]
    · rw [if_neg (fun z => q z.2), if_neg (fun z => q (by omega))]
      exact (h7 j hj).2.2.1
  · rw [nb_ii, if_neg (by omega)]
    exact h8 j hj hj'
theorem hn_loot {i b : Nat} (hk : k = 76 ∨ k = 94) (hnc : nc ≤ 10) (hi : i < nc) (hb : b ≤ 9999) (h : hn_N nc ng nt k l sx sm) : hn_N nc ng nt k l (hq_si sx (k + 1) i (Int32.ofNat b)) (hq_si sm 199 (10 * l + i) (Int32.ofNat b)) := by
  unfold hn_N hn_bold at h ⊢
  simp (disch := omega) only [nn_gk, nb_ij]
  obtain ⟨h1, h2, h3, h4, h5, h6, h7, h8⟩ := h
  refine ⟨h1, h2, h3, fun j hj => ?_, fun j hj hj' => ?_, h6, h7, h8⟩
  · rw [nb_ii, nb_ii]
    by_cases q : j = i
    · rw [if_pos ⟨rfl, q⟩, if_pos ⟨rfl, by omega⟩]
      exact ⟨b, hb, rfl, rfl⟩
    · rw [if_neg (fun z => q z.2), if_neg (fun z => q (by omega))]
      exact h4 j hj
  · rw [nb_ii, if_neg (by omega)]
    exact h5 j hj hj'
theorem hn_hour {x : Int32} (hk : k = 76 ∨ k = 94) (h : hn_N nc ng nt k l sx sm) : hn_N nc ng nt k l (hq_si sx k 0 x) (hq_si sm 196 l x) := by
  unfold hn_N hn_bold at h ⊢
  simp (disch := omega) only [nn_gk, nn_gn, nb_ij]
  obtain ⟨h1, h2, h3, h4, h5, h6, h7, h8⟩ := h
  exact ⟨by rw [nn_g1, nn_g1], h2, h3, h4, h5, h6, h7, h8⟩
theorem hn_drawn {d : Nat} (hk : k = 76 ∨ k = 94) (hd : d < 2147483648) (h : hn_N nc ng nt k l sx sm) : hn_N nc ng nt k l (hq_sj sx k 1 (Int64.ofNat d)) (hq_si sm 197 l (Int32.ofNat d)) := by
  unfold hn_N hn_bold at h ⊢
  simp (disch := omega) only [nn_gk, nb_ji]
  obtain ⟨h1, h2, h3, h4, h5, h6, h7, h8⟩ := h
  exact ⟨h1, ⟨d, hd, nb_jsame, nn_g1⟩, h3, h4, h5, h6, h7, h8⟩
end
