/-! PRECISE FRAMES: what a function may write, as a list of arrays and fields -/
def hq_nw (W : List (Nat × Option Nat)) (k i : Nat) : Bool := W.all fun w => !(Nat.beq w.1 k && (match w.2 with
  | none => true
  | some b => Nat.beq b i))
def hq_has (W : List (Nat × Option Nat)) (e : Nat × Option Nat) : Bool := W.any fun w => Nat.beq w.1 e.1 && (match w.2, e.2 with
  | none, none => true
  | some a, some b => Nat.beq a b
  | _, _ => false)
def hq_sub (V W : List (Nat × Option Nat)) : Bool := V.all fun e => hq_has W e
def hq_fc (W : List (Nat × Option Nat)) (s t : hq_S) : Prop := ∀ k i, hq_nw W k i = true → hq_gi t k i = hq_gi s k i ∧ hq_gj t k i = hq_gj s k i ∧ hq_gr t k i = hq_gr s k i
theorem hq_fc_rf (W : List (Nat × Option Nat)) (s : hq_S) : hq_fc W s s := fun _ _ _ => ⟨rfl, rfl, rfl⟩
theorem hq_fc_tr {W : List (Nat × Option Nat)} {s t u : hq_S} (h : hq_fc W s t) (g : hq_fc W t u) : hq_fc W s u := fun k i hk => ⟨(g k i hk).1.trans (h k i hk).1, (g k i hk).2.1.trans (h k i hk).2.1, (g k i hk).2.2.trans (h k i hk).2.2⟩
theorem hq_has_spec {W : List (Nat × Option Nat)} {e : Nat × Option Nat} (h : hq_has W e = true) : e ∈ W := by
  unfold hq_has at h
  obtain ⟨w, hw, h⟩ := List.any_eq_true.mp h
  obtain ⟨h1, h2⟩ := Bool.and_eq_true_iff.mp h
  have h1 := Nat.eq_of_beq_eq_true h1
  obtain ⟨w1, w2⟩ := w
  obtain ⟨e1, e2⟩ := e
  dsimp only at h1 h2
  subst h1
  cases w2 with
  | none => cases e2 with
    | none => exact hw
    | some b => cases h2
  | some a => cases e2 with
    | none => cases h2
    | some b => rw [← Nat.eq_of_beq_eq_true h2]; exact hw
theorem hq_nw_arr {W : List (Nat × Option Nat)} {k k' i : Nat} (h : hq_has W (k, none) = true) (hn : hq_nw W k' i = true) : ¬ k' = k := by
  intro q
  have := List.all_eq_true.mp hn _ (hq_has_spec h)
  rw [q, Nat.beq_refl] at this
  cases this
theorem hq_nw_fld {W : List (Nat × Option Nat)} {k b k' i : Nat} (h : hq_has W (k, some b) = true) (hn : hq_nw W k' i = true) : ¬ (k' = k ∧ i = b) := by
  intro q
  have := List.all_eq_true.mp hn _ (hq_has_spec h)
  dsimp only at this
  rw [q.1, q.2, Nat.beq_refl, Nat.beq_refl] at this
  cases this
theorem hq_fc_mono {V W : List (Nat × Option Nat)} {s t : hq_S} (hs : hq_sub V W = true) (h : hq_fc V s t) : hq_fc W s t := fun k i hk => h k i (List.all_eq_true.mpr fun e he => List.all_eq_true.mp hk e (hq_has_spec (List.all_eq_true.mp hs e he)))
theorem hq_fc_st {W : List (Nat × Option Nat)} {s s1 : hq_S} {k L : Nat} {i x : Int32} (h : hq_st s k L i x = some s1) (hk : hq_has W (k, none) = true) : hq_fc W s s1 := by
  unfold hq_st at h
  rcases mm_bif h with ⟨-, h⟩ | ⟨-, h⟩
  · cases h; exact fun k' i' hn => ⟨if_neg fun q => hq_nw_arr hk hn q.1, rfl, rfl⟩
  · cases h
theorem hq_fc_stj {W : List (Nat × Option Nat)} {s s1 : hq_S} {k L : Nat} {i : Int32} {x : Int64} (h : hq_stj s k L i x = some s1) (hk : hq_has W (k, none) = true) : hq_fc W s s1 := by
  unfold hq_stj at h
  rcases mm_bif h with ⟨-, h⟩ | ⟨-, h⟩
  · cases h; exact fun k' i' hn => ⟨rfl, if_neg fun q => hq_nw_arr hk hn q.1, rfl⟩
  · cases h
theorem hq_fc_pi {W : List (Nat × Option Nat)} {s s1 : hq_S} {k b c : Nat} {x : Int32} (h : hq_pi s k b c x = some s1) (hk : hq_has W (k, some b) = true) : hq_fc W s s1 := by
  unfold hq_pi at h
  rcases mm_bif h with ⟨-, h⟩ | ⟨-, h⟩
  · cases h; exact fun k' i' hn => ⟨if_neg fun q => hq_nw_fld hk hn q, rfl, rfl⟩
  · cases h
theorem hq_fc_pj {W : List (Nat × Option Nat)} {s s1 : hq_S} {k b : Nat} {x : Int64} (h : hq_pj s k b x = some s1) (hk : hq_has W (k, some b) = true) : hq_fc W s s1 := by
  cases h; exact fun k' i' hn => ⟨rfl, if_neg fun q => hq_nw_fld hk hn q, rfl⟩
theorem hq_fc_pr {W : List (Nat × Option Nat)} {s s1 : hq_S} {k b x : Nat} (h : hq_pr s k b x = some s1) (hk : hq_has W (k, some b) = true) : hq_fc W s s1 := by
  cases h; exact fun k' i' hn => ⟨rfl, rfl, if_neg fun q => hq_nw_fld hk hn q⟩
theorem hq_fc_cp {W : List (Nat × Option Nat)} {s s1 : hq_S} {k Lk j Lj : Nat} {sp dp n : Int32} (h : hq_cp s k Lk j Lj sp dp n = some s1) (hk : hq_has W (j, none) = true) : hq_fc W s s1 := by
  unfold hq_cp at h
  rcases mm_bif h with ⟨-, h⟩ | ⟨-, h⟩
  · cases h; exact fun k' i' hn => ⟨if_neg fun q => hq_nw_arr hk hn q.1, rfl, rfl⟩
  · cases h
theorem hq_fc_cpj {W : List (Nat × Option Nat)} {s s1 : hq_S} {k Lk j Lj : Nat} {sp dp n : Int32} (h : hq_cpj s k Lk j Lj sp dp n = some s1) (hk : hq_has W (j, none) = true) : hq_fc W s s1 := by
  unfold hq_cpj at h
  rcases mm_bif h with ⟨-, h⟩ | ⟨-, h⟩
  · cases h; exact fun k' i' hn => ⟨rfl, if_neg fun q => hq_nw_arr hk hn q.1, rfl⟩
  · cases h
theorem hq_fc_stiA {W : List (Nat × Option Nat)} {s s1 : hq_S} {k : Nat} {i x : Int32} (h : hq_stiA s k i x = some s1) (hk : hq_has W (k, none) = true) : hq_fc W s s1 := by
  obtain ⟨L, -, h⟩ := hq_bind h
  exact hq_fc_st h hk
def w_X0_fitTo : List (Nat × Option Nat) := [(152, some 0), (152, some 2), (152, some 9), (153, none)]
theorem f_X0_fitTo_L19_B_fw {n : Nat} {k1 : Nat} {a2 : Int32} {a3 : Int32} {q19 : Nat → Int32 → Int32 → hq_S → Option hq_S} {s : hq_S} {y : hq_S} (e19 : ∀ (k1 : Nat) (a2 : Int32) (a3 : Int32) (o4 : Option Value) (s : hq_S) (m1_ : hq_isS k1), q19 k1 a2 a3 s = some y → hq_fc w_X0_fitTo s y) (m1_ : hq_isS k1) (h : f_X0_fitTo_L19_B n q19 k1 a2 a3 s = some y) : hq_fc w_X0_fitTo s y := by
  unfold f_X0_fitTo_L19_B at h
  have t := hq_fc_rf w_X0_fitTo s
  by_cases c3 : a3 < (10 : Int32)
  · rw [if_pos c3] at h
    obtain ⟨x8, hx8, h⟩ := hq_bind h
    obtain ⟨x9, hx9, h⟩ := hq_bind h
    obtain ⟨z10, hz10, h⟩ := hq_bind h
    obtain ⟨s12, hs12, h⟩ := hq_bind h
    have t := hq_fc_tr t (hq_fc_st hs12 (by decide))
    exact hq_fc_tr t (e19 k1 (a2 &&& z10) (a3 + (1 : Int32)) none s12 m1_ h)
  · rw [if_neg c3] at h
    obtain ⟨s4, hs4, h⟩ := hq_bind h
    have t := hq_fc_tr t (hq_fc_pi hs4 (by decide))
    by_cases c5 : a2 = 0
    · rw [if_pos c5] at h
      obtain ⟨s6, hs6, h⟩ := hq_bind h
      have t := hq_fc_tr t (hq_fc_pi hs6 (by decide))
      obtain ⟨s7, hs7, h⟩ := hq_bind h
      have t := hq_fc_tr t (hq_fc_pi hs7 (by decide))
      have h := Option.some.inj h
      subst h
      exact t
    · rw [if_neg c5] at h
      have h := Option.some.inj h
      subst h
      exact t
theorem f_X0_fitTo_L19_fw {n m : Nat} {k1 : Nat} {a2 : Int32} {a3 : Int32} {s : hq_S} {y : hq_S} (m1_ : hq_isS k1) (h : f_X0_fitTo_L19 n m k1 a2 a3 s = some y) : hq_fc w_X0_fitTo s y := by
  induction m generalizing k1 a2 a3 s with
  | zero => cases h
  | succ m ih => exact f_X0_fitTo_L19_B_fw (n := n) (k1 := k1) (a2 := a2) (a3 := a3) (q19 := f_X0_fitTo_L19 n m) (fun k1 a2 a3 _ s m1_ h => ih m1_ h) m1_ h
theorem f_X0_fitTo_fw {n : Nat} {k1 : Nat} {s : hq_S} {y : hq_S} (m1_ : hq_isS k1) (h : f_X0_fitTo n k1 s = some y) : hq_fc w_X0_fitTo s y := by
  unfold f_X0_fitTo at h
  have t := hq_fc_rf w_X0_fitTo s
  obtain ⟨z1, hz1, h⟩ := hq_bind h
  exact hq_fc_tr t (f_X0_fitTo_L19_fw m1_ h)
def w_X0_noteLost : List (Nat × Option Nat) := [(155, none), (158, none)]
theorem f_X0_noteLost_L13_B_fw {n : Nat} {a1 : Int32} {a2 : Int32} {a3 : Int32} {a4 : Int32} {q13 : Int32 → Int32 → Int32 → Int32 → hq_S → Option hq_S} {s : hq_S} {y : hq_S} (e13 : ∀ (a1 : Int32) (a2 : Int32) (a3 : Int32) (a4 : Int32) (s : hq_S), q13 a1 a2 a3 a4 s = some y → hq_fc w_X0_noteLost s y) (h : f_X0_noteLost_L13_B n q13 a1 a2 a3 a4 s = some y) : hq_fc w_X0_noteLost s y := by
  unfold f_X0_noteLost_L13_B at h
  have t := hq_fc_rf w_X0_noteLost s
  by_cases c3 : a4 < (hq_gi s 152 0)
  · rw [if_pos c3] at h
    obtain ⟨z4, hz4, h⟩ := hq_bind h
    have t : hq_fc w_X0_noteLost s z4 := by
      clear h
      have h := hz4
      by_cases c5 : ((a2 >>> (a4 &&& 31)) &&& (1 : Int32)) = (1 : Int32)
      · rw [if_pos c5] at h
        obtain ⟨s6, hs6, h⟩ := hq_bind h
        have t := hq_fc_tr t (hq_fc_st hs6 (by decide))
        cases h
        exact t
      · rw [if_neg c5] at h
        cases h
        exact t
    exact hq_fc_tr t (e13 a1 a2 a3 (a4 + (1 : Int32)) z4 h)
  · rw [if_neg c3] at h
    have h := Option.some.inj h
    subst h
    exact t
theorem f_X0_noteLost_L13_fw {n m : Nat} {a1 : Int32} {a2 : Int32} {a3 : Int32} {a4 : Int32} {s : hq_S} {y : hq_S} (h : f_X0_noteLost_L13 n m a1 a2 a3 a4 s = some y) : hq_fc w_X0_noteLost s y := by
  induction m generalizing a1 a2 a3 a4 s with
  | zero => cases h
  | succ m ih => exact f_X0_noteLost_L13_B_fw (n := n) (a1 := a1) (a2 := a2) (a3 := a3) (a4 := a4) (q13 := f_X0_noteLost_L13 n m) (fun a1 a2 a3 a4 s h => ih h) h
theorem f_X0_noteLost_fw {n : Nat} {a1 : Int32} {a2 : Int32} {a3 : Int32} {s : hq_S} {y : hq_S} (h : f_X0_noteLost n a1 a2 a3 s = some y) : hq_fc w_X0_noteLost s y := by
  unfold f_X0_noteLost at h
  have t := hq_fc_rf w_X0_noteLost s
  obtain ⟨x1, hx1, h⟩ := hq_bind h
  obtain ⟨s2, hs2, h⟩ := hq_bind h
  have t := hq_fc_tr t (hq_fc_st hs2 (by decide))
  exact hq_fc_tr t (f_X0_noteLost_L13_fw h)
def w_X0_layOut : List (Nat × Option Nat) := [(152, some 3), (154, none), (155, none), (158, none)]
theorem f_X0_layOut_L125_B_fw {n : Nat} {a1 : Int32} {q125 : Int32 → hq_S → Option hq_S} {s : hq_S} {y : hq_S} (e125 : ∀ (a1 : Int32) (o2 : Option Value) (s : hq_S), q125 a1 s = some y → hq_fc w_X0_layOut s y) (h : f_X0_layOut_L125_B n q125 a1 s = some y) : hq_fc w_X0_layOut s y := by
  unfold f_X0_layOut_L125_B at h
  have t := hq_fc_rf w_X0_layOut s
  by_cases c5 : a1 < (hq_gi s 152 3)
  · rw [if_pos c5] at h
    obtain ⟨s6, hs6, h⟩ := hq_bind h
    have t := hq_fc_tr t (hq_fc_st hs6 (by decide))
    obtain ⟨x7, hx7, h⟩ := hq_bind h
    obtain ⟨s8, hs8, h⟩ := hq_bind h
    have t := hq_fc_tr t (hq_fc_mono (by decide) (f_X0_noteLost_fw hs8))
    exact hq_fc_tr t (e125 (a1 + (1 : Int32)) none s8 h)
  · rw [if_neg c5] at h
    have h := Option.some.inj h
    subst h
    exact t
theorem f_X0_layOut_L125_fw {n m : Nat} {a1 : Int32} {s : hq_S} {y : hq_S} (h : f_X0_layOut_L125 n m a1 s = some y) : hq_fc w_X0_layOut s y := by
  induction m generalizing a1 s with
  | zero => cases h
  | succ m ih => exact f_X0_layOut_L125_B_fw (n := n) (a1 := a1) (q125 := f_X0_layOut_L125 n m) (fun a1 _ s h => ih h) h
theorem f_X0_layOut_L96_B_fw {n : Nat} {a1 : Int32} {q96 : Int32 → hq_S → Option hq_S} {s : hq_S} {y : hq_S} (e96 : ∀ (a1 : Int32) (o2 : Option Value) (s : hq_S), q96 a1 s = some y → hq_fc w_X0_layOut s y) (h : f_X0_layOut_L96_B n q96 a1 s = some y) : hq_fc w_X0_layOut s y := by
  unfold f_X0_layOut_L96_B at h
  have t := hq_fc_rf w_X0_layOut s
  by_cases c4 : a1 < ((hq_gi s 152 3) * (hq_gi s 152 0))
  · rw [if_pos c4] at h
    obtain ⟨s9, hs9, h⟩ := hq_bind h
    have t := hq_fc_tr t (hq_fc_st hs9 (by decide))
    exact hq_fc_tr t (e96 (a1 + (1 : Int32)) none s9 h)
  · rw [if_neg c4] at h
    exact hq_fc_tr t (f_X0_layOut_L125_fw h)
theorem f_X0_layOut_L96_fw {n m : Nat} {a1 : Int32} {s : hq_S} {y : hq_S} (h : f_X0_layOut_L96 n m a1 s = some y) : hq_fc w_X0_layOut s y := by
  induction m generalizing a1 s with
  | zero => cases h
  | succ m ih => exact f_X0_layOut_L96_B_fw (n := n) (a1 := a1) (q96 := f_X0_layOut_L96 n m) (fun a1 _ s h => ih h) h
theorem f_X0_layOut_J94_fw {n : Nat} {a1 : Int32} {s : hq_S} {y : hq_S} (h : f_X0_layOut_J94 n a1 s = some y) : hq_fc w_X0_layOut s y := by
  unfold f_X0_layOut_J94 at h
  have t := hq_fc_rf w_X0_layOut s
  exact hq_fc_tr t (f_X0_layOut_L96_fw h)
theorem f_X0_layOut_L39_B_fw {n : Nat} {a1 : Int32} {a2 : Int32} {q14 : Int32 → hq_S → Option hq_S} {q39 : Int32 → Int32 → hq_S → Option hq_S} {s : hq_S} {y : hq_S} (e14 : ∀ (a1 : Int32) (o2 : Option Value) (s : hq_S), q14 a1 s = some y → hq_fc w_X0_layOut s y) (e39 : ∀ (a1 : Int32) (a2 : Int32) (s : hq_S), q39 a1 a2 s = some y → hq_fc w_X0_layOut s y) (h : f_X0_layOut_L39_B n q14 q39 a1 a2 s = some y) : hq_fc w_X0_layOut s y := by
  unfold f_X0_layOut_L39_B at h
  have t := hq_fc_rf w_X0_layOut s
  by_cases c11 : a2 < 0
  · rw [if_pos c11] at h
    obtain ⟨s12, hs12, h⟩ := hq_bind h
    have t := hq_fc_tr t (hq_fc_pi hs12 (by decide))
    exact hq_fc_tr t (e14 (a1 + (1 : Int32)) none s12 h)
  · rw [if_neg c11] at h
    obtain ⟨x13, hx13, h⟩ := hq_bind h
    obtain ⟨x14, hx14, h⟩ := hq_bind h
    obtain ⟨x15, hx15, h⟩ := hq_bind h
    obtain ⟨s16, hs16, h⟩ := hq_bind h
    have t := hq_fc_tr t (hq_fc_st hs16 (by decide))
    exact hq_fc_tr t (e39 a1 (a2 + Int32.ofInt (-1)) s16 h)
theorem f_X0_layOut_L39_fw {n m : Nat} {a1 : Int32} {a2 : Int32} {q14 : Int32 → hq_S → Option hq_S} {s : hq_S} {y : hq_S} (e14 : ∀ (a1 : Int32) (o2 : Option Value) (s : hq_S), q14 a1 s = some y → hq_fc w_X0_layOut s y) (h : f_X0_layOut_L39 n q14 m a1 a2 s = some y) : hq_fc w_X0_layOut s y := by
  induction m generalizing a1 a2 s with
  | zero => cases h
  | succ m ih => exact f_X0_layOut_L39_B_fw (n := n) (a1 := a1) (a2 := a2) (q39 := f_X0_layOut_L39 n q14 m) e14 (fun a1 a2 s h => ih h) h
theorem f_X0_layOut_L14_B_fw {n : Nat} {a1 : Int32} {q14 : Int32 → hq_S → Option hq_S} {s : hq_S} {y : hq_S} (e14 : ∀ (a1 : Int32) (o2 : Option Value) (s : hq_S), q14 a1 s = some y → hq_fc w_X0_layOut s y) (h : f_X0_layOut_L14_B n q14 a1 s = some y) : hq_fc w_X0_layOut s y := by
  unfold f_X0_layOut_L14_B at h
  have t := hq_fc_rf w_X0_layOut s
  by_cases c3 : a1 < (hq_gi s 152 2)
  · rw [if_pos c3] at h
    by_cases c10 : a1 < (3 : Int32)
    · rw [if_pos c10] at h
      exact hq_fc_tr t (f_X0_layOut_L39_fw e14 h)
    · rw [if_neg c10] at h
      exact hq_fc_tr t (f_X0_layOut_J94_fw h)
  · rw [if_neg c3] at h
    exact hq_fc_tr t (f_X0_layOut_J94_fw h)
theorem f_X0_layOut_L14_fw {n m : Nat} {a1 : Int32} {s : hq_S} {y : hq_S} (h : f_X0_layOut_L14 n m a1 s = some y) : hq_fc w_X0_layOut s y := by
  induction m generalizing a1 s with
  | zero => cases h
  | succ m ih => exact f_X0_layOut_L14_B_fw (n := n) (a1 := a1) (q14 := f_X0_layOut_L14 n m) (fun a1 _ s h => ih h) h
theorem f_X0_layOut_fw {n : Nat} {s : hq_S} {y : hq_S} (h : f_X0_layOut n s = some y) : hq_fc w_X0_layOut s y := by
  unfold f_X0_layOut at h
  have t := hq_fc_rf w_X0_layOut s
  obtain ⟨s1, hs1, h⟩ := hq_bind h
  have t := hq_fc_tr t (hq_fc_pi hs1 (by decide))
  obtain ⟨s2, hs2, h⟩ := hq_bind h
  have t := hq_fc_tr t (hq_fc_st hs2 (by decide))
  exact hq_fc_tr t (f_X0_layOut_L14_fw h)
def w_X0_lostOnTurn : List (Nat × Option Nat) := []
theorem f_X0_lostOnTurn_L9_B_fw {n : Nat} {a1 : Int32} {a2 : Int32} {a3 : Int32} {q9 : Int32 → Int32 → Int32 → hq_S → Option (Int32 × hq_S)} {s : hq_S} {y : (Int32 × hq_S)} (e9 : ∀ (a1 : Int32) (a2 : Int32) (a3 : Int32) (s : hq_S), q9 a1 a2 a3 s = some y → hq_fc w_X0_lostOnTurn s y.2) (h : f_X0_lostOnTurn_L9_B n q9 a1 a2 a3 s = some y) : hq_fc w_X0_lostOnTurn s y.2 := by
  unfold f_X0_lostOnTurn_L9_B at h
  have t := hq_fc_rf w_X0_lostOnTurn s
  by_cases c2 : a3 < (hq_gi s 152 0)
  · rw [if_pos c2] at h
    obtain ⟨x3, hx3, h⟩ := hq_bind h
    obtain ⟨x4, hx4, h⟩ := hq_bind h
    obtain ⟨z5, hz5, h⟩ := hq_bind h
    exact hq_fc_tr t (e9 a1 (a2 ||| z5) (a3 + (1 : Int32)) s h)
  · rw [if_neg c2] at h
    have h := Option.some.inj h
    subst h
    exact t
theorem f_X0_lostOnTurn_L9_fw {n m : Nat} {a1 : Int32} {a2 : Int32} {a3 : Int32} {s : hq_S} {y : (Int32 × hq_S)} (h : f_X0_lostOnTurn_L9 n m a1 a2 a3 s = some y) : hq_fc w_X0_lostOnTurn s y.2 := by
  induction m generalizing a1 a2 a3 s with
  | zero => cases h
  | succ m ih => exact f_X0_lostOnTurn_L9_B_fw (n := n) (a1 := a1) (a2 := a2) (a3 := a3) (q9 := f_X0_lostOnTurn_L9 n m) (fun a1 a2 a3 s h => ih h) h
theorem f_X0_lostOnTurn_fw {n : Nat} {a1 : Int32} {s : hq_S} {y : (Int32 × hq_S)} (h : f_X0_lostOnTurn n a1 s = some y) : hq_fc w_X0_lostOnTurn s y.2 := by
  unfold f_X0_lostOnTurn at h
  have t := hq_fc_rf w_X0_lostOnTurn s
  obtain ⟨x1, hx1, h⟩ := hq_bind h
  exact hq_fc_tr t (f_X0_lostOnTurn_L9_fw h)
def w_X0_spreadOneGuard : List (Nat × Option Nat) := [(156, none), (157, none)]
theorem f_X0_spreadOneGuard_L39_B_fw {n : Nat} {a1 : Int32} {a2 : Int32} {a3 : Int32} {a4 : Int32} {a5 : Int32} {q16 : Int32 → Int32 → hq_S → Option hq_S} {q39 : Int32 → Int32 → Int32 → Int32 → Int32 → hq_S → Option hq_S} {s : hq_S} {y : hq_S} (e16 : ∀ (a1 : Int32) (a2 : Int32) (o3 : Option Value) (o4 : Option Value) (o5 : Option Value) (s : hq_S), q16 a1 a2 s = some y → hq_fc w_X0_spreadOneGuard s y) (e39 : ∀ (a1 : Int32) (a2 : Int32) (a3 : Int32) (a4 : Int32) (a5 : Int32) (s : hq_S), q39 a1 a2 a3 a4 a5 s = some y → hq_fc w_X0_spreadOneGuard s y) (h : f_X0_spreadOneGuard_L39_B n q16 q39 a1 a2 a3 a4 a5 s = some y) : hq_fc w_X0_spreadOneGuard s y := by
  unfold f_X0_spreadOneGuard_L39_B at h
  have t := hq_fc_rf w_X0_spreadOneGuard s
  by_cases c7 : a5 < (hq_gi s 152 0)
  · rw [if_pos c7] at h
    obtain ⟨x9, hx9, h⟩ := hq_bind h
    obtain ⟨z10, hz10, h⟩ := hq_bind h
    exact hq_fc_tr t (e39 a1 a2 a3 (a4 ||| z10) (a5 + (1 : Int32)) s h)
  · rw [if_neg c7] at h
    obtain ⟨s8, hs8, h⟩ := hq_bind h
    have t := hq_fc_tr t (hq_fc_st hs8 (by decide))
    exact hq_fc_tr t (e16 a1 (a2 + (1 : Int32)) none none none s8 h)
theorem f_X0_spreadOneGuard_L39_fw {n m : Nat} {a1 : Int32} {a2 : Int32} {a3 : Int32} {a4 : Int32} {a5 : Int32} {q16 : Int32 → Int32 → hq_S → Option hq_S} {s : hq_S} {y : hq_S} (e16 : ∀ (a1 : Int32) (a2 : Int32) (o3 : Option Value) (o4 : Option Value) (o5 : Option Value) (s : hq_S), q16 a1 a2 s = some y → hq_fc w_X0_spreadOneGuard s y) (h : f_X0_spreadOneGuard_L39 n q16 m a1 a2 a3 a4 a5 s = some y) : hq_fc w_X0_spreadOneGuard s y := by
  induction m generalizing a1 a2 a3 a4 a5 s with
  | zero => cases h
  | succ m ih => exact f_X0_spreadOneGuard_L39_B_fw (n := n) (a1 := a1) (a2 := a2) (a3 := a3) (a4 := a4) (a5 := a5) (q39 := f_X0_spreadOneGuard_L39 n q16 m) e16 (fun a1 a2 a3 a4 a5 s h => ih h) h
theorem f_X0_spreadOneGuard_L16_B_fw {n : Nat} {a1 : Int32} {a2 : Int32} {q16 : Int32 → Int32 → hq_S → Option hq_S} {s : hq_S} {y : hq_S} (e16 : ∀ (a1 : Int32) (a2 : Int32) (o3 : Option Value) (o4 : Option Value) (o5 : Option Value) (s : hq_S), q16 a1 a2 s = some y → hq_fc w_X0_spreadOneGuard s y) (h : f_X0_spreadOneGuard_L16_B n q16 a1 a2 s = some y) : hq_fc w_X0_spreadOneGuard s y := by
  unfold f_X0_spreadOneGuard_L16_B at h
  have t := hq_fc_rf w_X0_spreadOneGuard s
  by_cases c3 : a2 < (hq_gi s 152 3)
  · rw [if_pos c3] at h
    obtain ⟨x5, hx5, h⟩ := hq_bind h
    obtain ⟨x6, hx6, h⟩ := hq_bind h
    exact hq_fc_tr t (f_X0_spreadOneGuard_L39_fw e16 h)
  · rw [if_neg c3] at h
    obtain ⟨s4, hs4, h⟩ := hq_bind h
    have t := hq_fc_tr t (hq_fc_cp hs4 (by decide))
    have h := Option.some.inj h
    subst h
    exact t
theorem f_X0_spreadOneGuard_L16_fw {n m : Nat} {a1 : Int32} {a2 : Int32} {s : hq_S} {y : hq_S} (h : f_X0_spreadOneGuard_L16 n m a1 a2 s = some y) : hq_fc w_X0_spreadOneGuard s y := by
  induction m generalizing a1 a2 s with
  | zero => cases h
  | succ m ih => exact f_X0_spreadOneGuard_L16_B_fw (n := n) (a1 := a1) (a2 := a2) (q16 := f_X0_spreadOneGuard_L16 n m) (fun a1 a2 _ _ _ s h => ih h) h
theorem f_X0_spreadOneGuard_fw {n : Nat} {a1 : Int32} {s : hq_S} {y : hq_S} (h : f_X0_spreadOneGuard n a1 s = some y) : hq_fc w_X0_spreadOneGuard s y := by
  unfold f_X0_spreadOneGuard at h
  have t := hq_fc_rf w_X0_spreadOneGuard s
  by_cases c1 : a1 < (1 : Int32)
  · rw [if_pos c1] at h
    have h := Option.some.inj h
    subst h
    exact t
  · rw [if_neg c1] at h
    by_cases c2 : (hq_gi s 152 0) < (1 : Int32)
    · rw [if_pos c2] at h
      have h := Option.some.inj h
      subst h
      exact t
    · rw [if_neg c2] at h
      exact hq_fc_tr t (f_X0_spreadOneGuard_L16_fw h)
def w_X0_solveRound : List (Nat × Option Nat) := [(155, none), (156, none), (157, none), (158, none)]
theorem f_X0_solveRound_L62_B_fw {n : Nat} {a1 : Int32} {a2 : Int32} {a3 : Int32} {a4 : Int32} {q62 : Int32 → Int32 → Int32 → Int32 → hq_S → Option (Int32 × hq_S)} {s : hq_S} {y : (Int32 × hq_S)} (e62 : ∀ (a1 : Int32) (a2 : Int32) (a3 : Int32) (a4 : Int32) (o5 : Option Value) (s : hq_S), q62 a1 a2 a3 a4 s = some y → hq_fc w_X0_solveRound s y.2) (h : f_X0_solveRound_L62_B n q62 a1 a2 a3 a4 s = some y) : hq_fc w_X0_solveRound s y.2 := by
  unfold f_X0_solveRound_L62_B at h
  have t := hq_fc_rf w_X0_solveRound s
  by_cases c3 : a4 < (hq_gi s 152 3)
  · rw [if_pos c3] at h
    obtain ⟨x4, hx4, h⟩ := hq_bind h
    obtain ⟨x5, hx5, h⟩ := hq_bind h
    obtain ⟨z6, hz6, h⟩ := hq_bind h
    have t : hq_fc w_X0_solveRound s z6.2 := by
      clear h
      have h := hz6
      by_cases c7 : (x4 &&& (x5 ^^^ (-1 : Int32))) = 0
      · rw [if_pos c7] at h
        cases h
        exact t
      · rw [if_neg c7] at h
        obtain ⟨s8, hs8, h⟩ := hq_bind h
        have t := hq_fc_tr t (hq_fc_mono (by decide) (f_X0_noteLost_fw hs8))
        cases h
        exact t
    exact hq_fc_tr t (e62 a1 a2 z6.1 (a4 + (1 : Int32)) none z6.2 h)
  · rw [if_neg c3] at h
    have hr : mm_rfit (mm_ret mc_X0_solveRound) a3 = true := hq_ifT h
    rw [if_pos hr] at h
    have h := Option.some.inj h
    subst h
    exact t
theorem f_X0_solveRound_L62_fw {n m : Nat} {a1 : Int32} {a2 : Int32} {a3 : Int32} {a4 : Int32} {s : hq_S} {y : (Int32 × hq_S)} (h : f_X0_solveRound_L62 n m a1 a2 a3 a4 s = some y) : hq_fc w_X0_solveRound s y.2 := by
  induction m generalizing a1 a2 a3 a4 s with
  | zero => cases h
  | succ m ih => exact f_X0_solveRound_L62_B_fw (n := n) (a1 := a1) (a2 := a2) (a3 := a3) (a4 := a4) (q62 := f_X0_solveRound_L62 n m) (fun a1 a2 a3 a4 _ s h => ih h) h
theorem f_X0_solveRound_L31_B_fw {n : Nat} {a1 : Int32} {a2 : Int32} {a3 : Int32} {q31 : Int32 → Int32 → Int32 → hq_S → Option (Int32 × hq_S)} {s : hq_S} {y : (Int32 × hq_S)} (e31 : ∀ (a1 : Int32) (a2 : Int32) (a3 : Int32) (s : hq_S), q31 a1 a2 a3 s = some y → hq_fc w_X0_solveRound s y.2) (h : f_X0_solveRound_L31_B n q31 a1 a2 a3 s = some y) : hq_fc w_X0_solveRound s y.2 := by
  unfold f_X0_solveRound_L31_B at h
  have t := hq_fc_rf w_X0_solveRound s
  by_cases c2 : a3 < (hq_gi s 152 2)
  · rw [if_pos c2] at h
    obtain ⟨s9, hs9, h⟩ := hq_bind h
    have t := hq_fc_tr t (hq_fc_mono (by decide) (f_X0_spreadOneGuard_fw hs9))
    exact hq_fc_tr t (e31 a1 (a2 * (hq_gi s9 152 0)) (a3 + (1 : Int32)) s9 h)
  · rw [if_neg c2] at h
    exact hq_fc_tr t (f_X0_solveRound_L62_fw h)
theorem f_X0_solveRound_L31_fw {n m : Nat} {a1 : Int32} {a2 : Int32} {a3 : Int32} {s : hq_S} {y : (Int32 × hq_S)} (h : f_X0_solveRound_L31 n m a1 a2 a3 s = some y) : hq_fc w_X0_solveRound s y.2 := by
  induction m generalizing a1 a2 a3 s with
  | zero => cases h
  | succ m ih => exact f_X0_solveRound_L31_B_fw (n := n) (a1 := a1) (a2 := a2) (a3 := a3) (q31 := f_X0_solveRound_L31 n m) (fun a1 a2 a3 s h => ih h) h
theorem f_X0_solveRound_L2_B_fw {n : Nat} {a1 : Int32} {a2 : Int32} {q2 : Int32 → Int32 → hq_S → Option (Int32 × hq_S)} {s : hq_S} {y : (Int32 × hq_S)} (e2 : ∀ (a1 : Int32) (a2 : Int32) (s : hq_S), q2 a1 a2 s = some y → hq_fc w_X0_solveRound s y.2) (h : f_X0_solveRound_L2_B n q2 a1 a2 s = some y) : hq_fc w_X0_solveRound s y.2 := by
  unfold f_X0_solveRound_L2_B at h
  have t := hq_fc_rf w_X0_solveRound s
  by_cases c1 : a2 < (hq_gi s 152 3)
  · rw [if_pos c1] at h
    obtain ⟨y10, hy10, h⟩ := hq_bind h
    have t := hq_fc_tr t (hq_fc_mono (by decide) (f_X0_lostOnTurn_fw hy10))
    obtain ⟨s11, hs11, h⟩ := hq_bind h
    have t := hq_fc_tr t (hq_fc_st hs11 (by decide))
    exact hq_fc_tr t (e2 a1 (a2 + (1 : Int32)) s11 h)
  · rw [if_neg c1] at h
    exact hq_fc_tr t (f_X0_solveRound_L31_fw h)
theorem f_X0_solveRound_L2_fw {n m : Nat} {a1 : Int32} {a2 : Int32} {s : hq_S} {y : (Int32 × hq_S)} (h : f_X0_solveRound_L2 n m a1 a2 s = some y) : hq_fc w_X0_solveRound s y.2 := by
  induction m generalizing a1 a2 s with
  | zero => cases h
  | succ m ih => exact f_X0_solveRound_L2_B_fw (n := n) (a1 := a1) (a2 := a2) (q2 := f_X0_solveRound_L2 n m) (fun a1 a2 s h => ih h) h
theorem f_X0_solveRound_fw {n : Nat} {a1 : Int32} {s : hq_S} {y : (Int32 × hq_S)} (h : f_X0_solveRound n a1 s = some y) : hq_fc w_X0_solveRound s y.2 := by
  unfold f_X0_solveRound at h
  have t := hq_fc_rf w_X0_solveRound s
  exact hq_fc_tr t (f_X0_solveRound_L2_fw h)
def w_X0_solve : List (Nat × Option Nat) := [(152, some 0), (152, some 2), (152, some 3), (152, some 9), (153, none), (154, none), (155, none), (156, none), (157, none), (158, none)]
theorem f_X0_solve_L36_B_fw {n : Nat} {k1 : Nat} {a2 : Int32} {a3 : Int32} {a4 : Int32} {q36 : Nat → Int32 → Int32 → Int32 → hq_S → Option hq_S} {s : hq_S} {y : hq_S} (e36 : ∀ (k1 : Nat) (a2 : Int32) (a3 : Int32) (a4 : Int32) (s : hq_S) (m1_ : hq_isS k1), q36 k1 a2 a3 a4 s = some y → hq_fc w_X0_solve s y) (m1_ : hq_isS k1) (h : f_X0_solve_L36_B n q36 k1 a2 a3 a4 s = some y) : hq_fc w_X0_solve s y := by
  unfold f_X0_solve_L36_B at h
  have t := hq_fc_rf w_X0_solve s
  by_cases c6 : (10000 : Int32) < a4
  · rw [if_pos c6] at h
    have h := Option.some.inj h
    subst h
    exact t
  · rw [if_neg c6] at h
    by_cases c7 : a3 = 0
    · rw [if_pos c7] at h
      have h := Option.some.inj h
      subst h
      exact t
    · rw [if_neg c7] at h
      obtain ⟨y8, hy8, h⟩ := hq_bind h
      have t := hq_fc_tr t (hq_fc_mono (by decide) (f_X0_solveRound_fw hy8))
      exact hq_fc_tr t (e36 k1 a2 y8.1 (a4 + (1 : Int32)) y8.2 m1_ h)
theorem f_X0_solve_L36_fw {n m : Nat} {k1 : Nat} {a2 : Int32} {a3 : Int32} {a4 : Int32} {s : hq_S} {y : hq_S} (m1_ : hq_isS k1) (h : f_X0_solve_L36 n m k1 a2 a3 a4 s = some y) : hq_fc w_X0_solve s y := by
  induction m generalizing k1 a2 a3 a4 s with
  | zero => cases h
  | succ m ih => exact f_X0_solve_L36_B_fw (n := n) (k1 := k1) (a2 := a2) (a3 := a3) (a4 := a4) (q36 := f_X0_solve_L36 n m) (fun k1 a2 a3 a4 s m1_ h => ih m1_ h) m1_ h
theorem f_X0_solve_fw {n : Nat} {k1 : Nat} {a2 : Int32} {s : hq_S} {y : hq_S} (m1_ : hq_isS k1) (h : f_X0_solve n k1 a2 s = some y) : hq_fc w_X0_solve s y := by
  unfold f_X0_solve at h
  have t := hq_fc_rf w_X0_solve s
  obtain ⟨s1, hs1, h⟩ := hq_bind h
  have t := hq_fc_tr t (hq_fc_mono (by decide) (f_X0_fitTo_fw m1_ hs1))
  by_cases c2 : (hq_gi s1 152 2) = a2
  · rw [if_pos c2] at h
    have h := Option.some.inj h
    subst h
    exact t
  · rw [if_neg c2] at h
    by_cases c3 : (hq_gi s1 152 0) < (1 : Int32)
    · rw [if_pos c3] at h
      have h := Option.some.inj h
      subst h
      exact t
    · rw [if_neg c3] at h
      obtain ⟨s4, hs4, h⟩ := hq_bind h
      have t := hq_fc_tr t (hq_fc_pi hs4 (by decide))
      obtain ⟨s5, hs5, h⟩ := hq_bind h
      have t := hq_fc_tr t (hq_fc_mono (by decide) (f_X0_layOut_fw hs5))
      exact hq_fc_tr t (f_X0_solve_L36_fw m1_ h)
def w_X0_roundsFrom : List (Nat × Option Nat) := []
theorem f_X0_roundsFrom_fw {n : Nat} {a1 : Int32} {a2 : Int32} {s : hq_S} {y : (Int32 × hq_S)} (h : f_X0_roundsFrom n a1 a2 s = some y) : hq_fc w_X0_roundsFrom s y.2 := by
  unfold f_X0_roundsFrom at h
  have t := hq_fc_rf w_X0_roundsFrom s
  obtain ⟨x1, hx1, h⟩ := hq_bind h
  have h := Option.some.inj h
  subst h
  exact t
def w_X0_cornerIn : List (Nat × Option Nat) := []
theorem f_X0_cornerIn_L15_B_fw {n : Nat} {a1 : Int32} {a2 : Int32} {a3 : Int32} {a4 : Int32} {q15 : Int32 → Int32 → Int32 → Int32 → hq_S → Option (Int32 × hq_S)} {s : hq_S} {y : (Int32 × hq_S)} (e15 : ∀ (a1 : Int32) (a2 : Int32) (a3 : Int32) (a4 : Int32) (s : hq_S), q15 a1 a2 a3 a4 s = some y → hq_fc w_X0_cornerIn s y.2) (h : f_X0_cornerIn_L15_B n q15 a1 a2 a3 a4 s = some y) : hq_fc w_X0_cornerIn s y.2 := by
  unfold f_X0_cornerIn_L15_B at h
  have t := hq_fc_rf w_X0_cornerIn s
  by_cases c2 : a4 < a2
  · rw [if_pos c2] at h
    obtain ⟨x4, hx4, h⟩ := hq_bind h
    exact hq_fc_tr t (e15 a1 a2 x4 (a4 + (1 : Int32)) s h)
  · rw [if_neg c2] at h
    obtain ⟨x3, hx3, h⟩ := hq_bind h
    have h := Option.some.inj h
    subst h
    exact t
theorem f_X0_cornerIn_L15_fw {n m : Nat} {a1 : Int32} {a2 : Int32} {a3 : Int32} {a4 : Int32} {s : hq_S} {y : (Int32 × hq_S)} (h : f_X0_cornerIn_L15 n m a1 a2 a3 a4 s = some y) : hq_fc w_X0_cornerIn s y.2 := by
  induction m generalizing a1 a2 a3 a4 s with
  | zero => cases h
  | succ m ih => exact f_X0_cornerIn_L15_B_fw (n := n) (a1 := a1) (a2 := a2) (a3 := a3) (a4 := a4) (q15 := f_X0_cornerIn_L15 n m) (fun a1 a2 a3 a4 s h => ih h) h
theorem f_X0_cornerIn_fw {n : Nat} {a1 : Int32} {a2 : Int32} {s : hq_S} {y : (Int32 × hq_S)} (h : f_X0_cornerIn n a1 a2 s = some y) : hq_fc w_X0_cornerIn s y.2 := by
  unfold f_X0_cornerIn at h
  have t := hq_fc_rf w_X0_cornerIn s
  by_cases c1 : (hq_gi s 152 0) < (1 : Int32)
  · rw [if_pos c1] at h
    have h := Option.some.inj h
    subst h
    exact t
  · rw [if_neg c1] at h
    exact hq_fc_tr t (f_X0_cornerIn_L15_fw h)
def w_X0_isTurn : List (Nat × Option Nat) := []
theorem f_X0_isTurn_L2_B_fw {n : Nat} {a1 : Int32} {a2 : Int32} {a3 : Int32} {q2 : Int32 → Int32 → Int32 → hq_S → Option (Int32 × hq_S)} {s : hq_S} {y : (Int32 × hq_S)} (e2 : ∀ (a1 : Int32) (a2 : Int32) (a3 : Int32) (s : hq_S), q2 a1 a2 a3 s = some y → hq_fc w_X0_isTurn s y.2) (h : f_X0_isTurn_L2_B n q2 a1 a2 a3 s = some y) : hq_fc w_X0_isTurn s y.2 := by
  unfold f_X0_isTurn_L2_B at h
  have t := hq_fc_rf w_X0_isTurn s
  by_cases c1 : a3 < (hq_gi s 152 2)
  · rw [if_pos c1] at h
    obtain ⟨y2, hy2, h⟩ := hq_bind h
    have t := hq_fc_tr t (hq_fc_mono (by decide) (f_X0_cornerIn_fw hy2))
    obtain ⟨x3, hx3, h⟩ := hq_bind h
    obtain ⟨y4, hy4, h⟩ := hq_bind h
    have t := hq_fc_tr t (hq_fc_mono (by decide) (f_X0_cornerIn_fw hy4))
    by_cases c5 : ((x3 >>> (y4.1 &&& 31)) &&& (1 : Int32)) = 0
    · rw [if_pos c5] at h
      have h := Option.some.inj h
      subst h
      exact t
    · rw [if_neg c5] at h
      exact hq_fc_tr t (e2 a1 a2 (a3 + (1 : Int32)) y4.2 h)
  · rw [if_neg c1] at h
    have h := Option.some.inj h
    subst h
    exact t
theorem f_X0_isTurn_L2_fw {n m : Nat} {a1 : Int32} {a2 : Int32} {a3 : Int32} {s : hq_S} {y : (Int32 × hq_S)} (h : f_X0_isTurn_L2 n m a1 a2 a3 s = some y) : hq_fc w_X0_isTurn s y.2 := by
  induction m generalizing a1 a2 a3 s with
  | zero => cases h
  | succ m ih => exact f_X0_isTurn_L2_B_fw (n := n) (a1 := a1) (a2 := a2) (a3 := a3) (q2 := f_X0_isTurn_L2 n m) (fun a1 a2 a3 s h => ih h) h
theorem f_X0_isTurn_fw {n : Nat} {a1 : Int32} {a2 : Int32} {s : hq_S} {y : (Int32 × hq_S)} (h : f_X0_isTurn n a1 a2 s = some y) : hq_fc w_X0_isTurn s y.2 := by
  unfold f_X0_isTurn at h
  have t := hq_fc_rf w_X0_isTurn s
  exact hq_fc_tr t (f_X0_isTurn_L2_fw h)
def w_X0_safest : List (Nat × Option Nat) := []
theorem f_X0_safest_L8_B_fw {n : Nat} {a1 : Int32} {a2 : Int32} {a3 : Int32} {a4 : Int32} {a5 : Int32} {q8 : Int32 → Int32 → Int32 → Int32 → Int32 → hq_S → Option (Int32 × hq_S)} {s : hq_S} {y : (Int32 × hq_S)} (e8 : ∀ (a1 : Int32) (a2 : Int32) (a3 : Int32) (a4 : Int32) (a5 : Int32) (s : hq_S), q8 a1 a2 a3 a4 a5 s = some y → hq_fc w_X0_safest s y.2) (h : f_X0_safest_L8_B n q8 a1 a2 a3 a4 a5 s = some y) : hq_fc w_X0_safest s y.2 := by
  unfold f_X0_safest_L8_B at h
  have t := hq_fc_rf w_X0_safest s
  by_cases c1 : a5 < (hq_gi s 152 0)
  · rw [if_pos c1] at h
    obtain ⟨x2, hx2, h⟩ := hq_bind h
    obtain ⟨z3, hz3, h⟩ := hq_bind h
    have t : hq_fc w_X0_safest s z3.2.2 := by
      clear h
      have h := hz3
      by_cases c4 : ((x2 >>> (a5 &&& 31)) &&& (1 : Int32)) = (1 : Int32)
      · rw [if_pos c4] at h
        obtain ⟨y5, hy5, h⟩ := hq_bind h
        have t := hq_fc_tr t (hq_fc_mono (by decide) (f_X0_roundsFrom_fw hy5))
        by_cases c6 : a4 < y5.1
        · rw [if_pos c6] at h
          obtain ⟨y7, hy7, h⟩ := hq_bind h
          have t := hq_fc_tr t (hq_fc_mono (by decide) (f_X0_roundsFrom_fw hy7))
          cases h
          exact t
        · rw [if_neg c6] at h
          cases h
          exact t
      · rw [if_neg c4] at h
        cases h
        exact t
    exact hq_fc_tr t (e8 a1 a2 z3.1 z3.2.1 (a5 + (1 : Int32)) z3.2.2 h)
  · rw [if_neg c1] at h
    have h := Option.some.inj h
    subst h
    exact t
theorem f_X0_safest_L8_fw {n m : Nat} {a1 : Int32} {a2 : Int32} {a3 : Int32} {a4 : Int32} {a5 : Int32} {s : hq_S} {y : (Int32 × hq_S)} (h : f_X0_safest_L8 n m a1 a2 a3 a4 a5 s = some y) : hq_fc w_X0_safest s y.2 := by
  induction m generalizing a1 a2 a3 a4 a5 s with
  | zero => cases h
  | succ m ih => exact f_X0_safest_L8_B_fw (n := n) (a1 := a1) (a2 := a2) (a3 := a3) (a4 := a4) (a5 := a5) (q8 := f_X0_safest_L8 n m) (fun a1 a2 a3 a4 a5 s h => ih h) h
theorem f_X0_safest_fw {n : Nat} {a1 : Int32} {a2 : Int32} {s : hq_S} {y : (Int32 × hq_S)} (h : f_X0_safest n a1 a2 s = some y) : hq_fc w_X0_safest s y.2 := by
  unfold f_X0_safest at h
  have t := hq_fc_rf w_X0_safest s
  exact hq_fc_tr t (f_X0_safest_L8_fw h)
def w_X0_roundsOnTurn : List (Nat × Option Nat) := []
theorem f_X0_roundsOnTurn_fw {n : Nat} {a1 : Int32} {a2 : Int32} {s : hq_S} {y : (Int32 × hq_S)} (h : f_X0_roundsOnTurn n a1 a2 s = some y) : hq_fc w_X0_roundsOnTurn s y.2 := by
  unfold f_X0_roundsOnTurn at h
  have t := hq_fc_rf w_X0_roundsOnTurn s
  obtain ⟨y1, hy1, h⟩ := hq_bind h
  have t := hq_fc_tr t (hq_fc_mono (by decide) (f_X0_roundsFrom_fw hy1))
  by_cases c2 : y1.1 = 0
  · rw [if_pos c2] at h
    have h := Option.some.inj h
    subst h
    exact t
  · rw [if_neg c2] at h
    obtain ⟨y3, hy3, h⟩ := hq_bind h
    have t := hq_fc_tr t (hq_fc_mono (by decide) (f_X0_safest_fw hy3))
    obtain ⟨y4, hy4, h⟩ := hq_bind h
    have t := hq_fc_tr t (hq_fc_mono (by decide) (f_X0_roundsFrom_fw hy4))
    have h := Option.some.inj h
    subst h
    exact t
def w_X0_firstRow : List (Nat × Option Nat) := []
theorem f_X0_firstRow_J45_fw {n : Nat} {a1 : Int32} {a2 : Int32} {a3 : Int32} {a4 : Int32} {q12 : Int32 → Int32 → Int32 → Int32 → hq_S → Option (Int32 × hq_S)} {s : hq_S} {y : (Int32 × hq_S)} (e12 : ∀ (a1 : Int32) (a2 : Int32) (a3 : Int32) (a4 : Int32) (s : hq_S), q12 a1 a2 a3 a4 s = some y → hq_fc w_X0_firstRow s y.2) (h : f_X0_firstRow_J45 n q12 a1 a2 a3 a4 s = some y) : hq_fc w_X0_firstRow s y.2 := by
  unfold f_X0_firstRow_J45 at h
  have t := hq_fc_rf w_X0_firstRow s
  exact hq_fc_tr t (e12 a1 a2 a3 (a4 + (1 : Int32)) s h)
theorem f_X0_firstRow_L12_B_fw {n : Nat} {a1 : Int32} {a2 : Int32} {a3 : Int32} {a4 : Int32} {q12 : Int32 → Int32 → Int32 → Int32 → hq_S → Option (Int32 × hq_S)} {s : hq_S} {y : (Int32 × hq_S)} (e12 : ∀ (a1 : Int32) (a2 : Int32) (a3 : Int32) (a4 : Int32) (s : hq_S), q12 a1 a2 a3 a4 s = some y → hq_fc w_X0_firstRow s y.2) (h : f_X0_firstRow_L12_B n q12 a1 a2 a3 a4 s = some y) : hq_fc w_X0_firstRow s y.2 := by
  unfold f_X0_firstRow_L12_B at h
  have t := hq_fc_rf w_X0_firstRow s
  by_cases c2 : a4 < (hq_gi s 152 3)
  · rw [if_pos c2] at h
    obtain ⟨y3, hy3, h⟩ := hq_bind h
    have t := hq_fc_tr t (hq_fc_mono (by decide) (f_X0_isTurn_fw hy3))
    by_cases c4 : y3.1 = 0
    · rw [if_pos c4] at h
      exact hq_fc_tr t (f_X0_firstRow_J45_fw e12 h)
    · rw [if_neg c4] at h
      obtain ⟨y5, hy5, h⟩ := hq_bind h
      have t := hq_fc_tr t (hq_fc_mono (by decide) (f_X0_roundsOnTurn_fw hy5))
      by_cases c6 : y5.1 = a3
      · rw [if_pos c6] at h
        have h := Option.some.inj h
        subst h
        exact t
      · rw [if_neg c6] at h
        exact hq_fc_tr t (f_X0_firstRow_J45_fw e12 h)
  · rw [if_neg c2] at h
    have h := Option.some.inj h
    subst h
    exact t
theorem f_X0_firstRow_L12_fw {n m : Nat} {a1 : Int32} {a2 : Int32} {a3 : Int32} {a4 : Int32} {s : hq_S} {y : (Int32 × hq_S)} (h : f_X0_firstRow_L12 n m a1 a2 a3 a4 s = some y) : hq_fc w_X0_firstRow s y.2 := by
  induction m generalizing a1 a2 a3 a4 s with
  | zero => cases h
  | succ m ih => exact f_X0_firstRow_L12_B_fw (n := n) (a1 := a1) (a2 := a2) (a3 := a3) (a4 := a4) (q12 := f_X0_firstRow_L12 n m) (fun a1 a2 a3 a4 s h => ih h) h
theorem f_X0_firstRow_fw {n : Nat} {a1 : Int32} {a2 : Int32} {s : hq_S} {y : (Int32 × hq_S)} (h : f_X0_firstRow n a1 a2 s = some y) : hq_fc w_X0_firstRow s y.2 := by
  unfold f_X0_firstRow at h
  have t := hq_fc_rf w_X0_firstRow s
  obtain ⟨y1, hy1, h⟩ := hq_bind h
  have t := hq_fc_tr t (hq_fc_mono (by decide) (f_X0_roundsFrom_fw hy1))
  exact hq_fc_tr t (f_X0_firstRow_L12_fw h)
def w_X0_firstPostRow : List (Nat × Option Nat) := []
theorem f_X0_firstPostRow_L2_B_fw {n : Nat} {a1 : Int32} {q2 : Int32 → hq_S → Option (Int32 × hq_S)} {s : hq_S} {y : (Int32 × hq_S)} (e2 : ∀ (a1 : Int32) (s : hq_S), q2 a1 s = some y → hq_fc w_X0_firstPostRow s y.2) (h : f_X0_firstPostRow_L2_B n q2 a1 s = some y) : hq_fc w_X0_firstPostRow s y.2 := by
  unfold f_X0_firstPostRow_L2_B at h
  have t := hq_fc_rf w_X0_firstPostRow s
  by_cases c1 : a1 < (hq_gi s 152 3)
  · rw [if_pos c1] at h
    obtain ⟨x2, hx2, h⟩ := hq_bind h
    by_cases c3 : x2 = (((1 : Int32) <<< ((hq_gi s 152 0) &&& 31)) - (1 : Int32))
    · rw [if_pos c3] at h
      have h := Option.some.inj h
      subst h
      exact t
    · rw [if_neg c3] at h
      exact hq_fc_tr t (e2 (a1 + (1 : Int32)) s h)
  · rw [if_neg c1] at h
    have h := Option.some.inj h
    subst h
    exact t
theorem f_X0_firstPostRow_L2_fw {n m : Nat} {a1 : Int32} {s : hq_S} {y : (Int32 × hq_S)} (h : f_X0_firstPostRow_L2 n m a1 s = some y) : hq_fc w_X0_firstPostRow s y.2 := by
  induction m generalizing a1 s with
  | zero => cases h
  | succ m ih => exact f_X0_firstPostRow_L2_B_fw (n := n) (a1 := a1) (q2 := f_X0_firstPostRow_L2 n m) (fun a1 s h => ih h) h
theorem f_X0_firstPostRow_fw {n : Nat} {s : hq_S} {y : (Int32 × hq_S)} (h : f_X0_firstPostRow n s = some y) : hq_fc w_X0_firstPostRow s y.2 := by
  unfold f_X0_firstPostRow at h
  have t := hq_fc_rf w_X0_firstPostRow s
  exact hq_fc_tr t (f_X0_firstPostRow_L2_fw h)
def w_X0_findPosts : List (Nat × Option Nat) := [(152, some 0), (152, some 2), (152, some 3), (152, some 9), (152, some 10), (152, some 11), (153, none), (154, none), (155, none), (156, none), (157, none), (158, none)]
theorem f_X0_findPosts_L25_B_fw {n : Nat} {k1 : Nat} {a2 : Int32} {q25 : Nat → Int32 → hq_S → Option hq_S} {s : hq_S} {y : hq_S} (e25 : ∀ (k1 : Nat) (a2 : Int32) (s : hq_S) (m1_ : hq_isS k1), q25 k1 a2 s = some y → hq_fc w_X0_findPosts s y) (m1_ : hq_isS k1) (h : f_X0_findPosts_L25_B n q25 k1 a2 s = some y) : hq_fc w_X0_findPosts s y := by
  unfold f_X0_findPosts_L25_B at h
  have t := hq_fc_rf w_X0_findPosts s
  by_cases c5 : (3 : Int32) < a2
  · rw [if_pos c5] at h
    have h := Option.some.inj h
    subst h
    exact t
  · rw [if_neg c5] at h
    by_cases c6 : (hq_gi s 152 10) = 0
    · rw [if_pos c6] at h
      obtain ⟨s7, hs7, h⟩ := hq_bind h
      have t := hq_fc_tr t (hq_fc_mono (by decide) (f_X0_solve_fw m1_ hs7))
      obtain ⟨y8, hy8, h⟩ := hq_bind h
      have t := hq_fc_tr t (hq_fc_mono (by decide) (f_X0_firstPostRow_fw hy8))
      obtain ⟨s9, hs9, h⟩ := hq_bind h
      have t := hq_fc_tr t (hq_fc_pi hs9 (by decide))
      obtain ⟨z10, hz10, h⟩ := hq_bind h
      obtain ⟨s12, hs12, h⟩ := hq_bind h
      have t := hq_fc_tr t (hq_fc_pi hs12 (by decide))
      exact hq_fc_tr t (e25 k1 (a2 + (1 : Int32)) s12 m1_ h)
    · rw [if_neg c6] at h
      have h := Option.some.inj h
      subst h
      exact t
theorem f_X0_findPosts_L25_fw {n m : Nat} {k1 : Nat} {a2 : Int32} {s : hq_S} {y : hq_S} (m1_ : hq_isS k1) (h : f_X0_findPosts_L25 n m k1 a2 s = some y) : hq_fc w_X0_findPosts s y := by
  induction m generalizing k1 a2 s with
  | zero => cases h
  | succ m ih => exact f_X0_findPosts_L25_B_fw (n := n) (k1 := k1) (a2 := a2) (q25 := f_X0_findPosts_L25 n m) (fun k1 a2 s m1_ h => ih m1_ h) m1_ h
theorem f_X0_findPosts_fw {n : Nat} {k1 : Nat} {s : hq_S} {y : hq_S} (m1_ : hq_isS k1) (h : f_X0_findPosts n k1 s = some y) : hq_fc w_X0_findPosts s y := by
  unfold f_X0_findPosts at h
  have t := hq_fc_rf w_X0_findPosts s
  obtain ⟨s1, hs1, h⟩ := hq_bind h
  have t := hq_fc_tr t (hq_fc_mono (by decide) (f_X0_fitTo_fw m1_ hs1))
  by_cases c2 : (hq_gi s1 152 9) = 0
  · rw [if_pos c2] at h
    obtain ⟨s3, hs3, h⟩ := hq_bind h
    have t := hq_fc_tr t (hq_fc_pi hs3 (by decide))
    obtain ⟨s4, hs4, h⟩ := hq_bind h
    have t := hq_fc_tr t (hq_fc_pi hs4 (by decide))
    exact hq_fc_tr t (f_X0_findPosts_L25_fw m1_ h)
  · rw [if_neg c2] at h
    have h := Option.some.inj h
    subst h
    exact t
def w_X1_clear : List (Nat × Option Nat) := [(170, some 0)]
theorem f_X1_clear_fw {n : Nat} {s : hq_S} {y : hq_S} (h : f_X1_clear n s = some y) : hq_fc w_X1_clear s y := by
  unfold f_X1_clear at h
  have t := hq_fc_rf w_X1_clear s
  obtain ⟨s1, hs1, h⟩ := hq_bind h
  have t := hq_fc_tr t (hq_fc_pi hs1 (by decide))
  have h := Option.some.inj h
  subst h
  exact t
def w_X1_forgetFirst : List (Nat × Option Nat) := [(170, some 0), (171, none), (172, none), (173, none)]
theorem f_X1_forgetFirst_fw {n : Nat} {s : hq_S} {y : hq_S} (h : f_X1_forgetFirst n s = some y) : hq_fc w_X1_forgetFirst s y := by
  unfold f_X1_forgetFirst at h
  have t := hq_fc_rf w_X1_forgetFirst s
  obtain ⟨s1, hs1, h⟩ := hq_bind h
  have t := hq_fc_tr t (hq_fc_pi hs1 (by decide))
  obtain ⟨s2, hs2, h⟩ := hq_bind h
  have t := hq_fc_tr t (hq_fc_cp hs2 (by decide))
  obtain ⟨s3, hs3, h⟩ := hq_bind h
  have t := hq_fc_tr t (hq_fc_cp hs3 (by decide))
  obtain ⟨s4, hs4, h⟩ := hq_bind h
  have t := hq_fc_tr t (hq_fc_cp hs4 (by decide))
  have h := Option.some.inj h
  subst h
  exact t
def w_X1_note : List (Nat × Option Nat) := [(170, some 0), (171, none), (172, none), (173, none)]
theorem f_X1_note_fw {n : Nat} {a1 : Int32} {a2 : Int32} {a3 : Int32} {s : hq_S} {y : hq_S} (h : f_X1_note n a1 a2 a3 s = some y) : hq_fc w_X1_note s y := by
  unfold f_X1_note at h
  have t := hq_fc_rf w_X1_note s
  obtain ⟨z1, hz1, h⟩ := hq_bind h
  have t : hq_fc w_X1_note s z1 := by
    clear h
    have h := hz1
    by_cases c2 : (hq_gi s 170 0) < (20 : Int32)
    · rw [if_pos c2] at h
      cases h
      exact t
    · rw [if_neg c2] at h
      obtain ⟨s3, hs3, h⟩ := hq_bind h
      have t := hq_fc_tr t (hq_fc_mono (by decide) (f_X1_forgetFirst_fw hs3))
      cases h
      exact t
  obtain ⟨s4, hs4, h⟩ := hq_bind h
  have t := hq_fc_tr t (hq_fc_st hs4 (by decide))
  obtain ⟨s5, hs5, h⟩ := hq_bind h
  have t := hq_fc_tr t (hq_fc_st hs5 (by decide))
  obtain ⟨s6, hs6, h⟩ := hq_bind h
  have t := hq_fc_tr t (hq_fc_st hs6 (by decide))
  obtain ⟨s7, hs7, h⟩ := hq_bind h
  have t := hq_fc_tr t (hq_fc_pi hs7 (by decide))
  have h := Option.some.inj h
  subst h
  exact t
def w_X1_takeLatest : List (Nat × Option Nat) := [(170, some 0), (170, some 4), (170, some 5), (170, some 6)]
theorem f_X1_takeLatest_fw {n : Nat} {s : hq_S} {y : hq_S} (h : f_X1_takeLatest n s = some y) : hq_fc w_X1_takeLatest s y := by
  unfold f_X1_takeLatest at h
  have t := hq_fc_rf w_X1_takeLatest s
  by_cases c1 : 0 < (hq_gi s 170 0)
  · rw [if_pos c1] at h
    obtain ⟨s2, hs2, h⟩ := hq_bind h
    have t := hq_fc_tr t (hq_fc_pi hs2 (by decide))
    obtain ⟨x3, hx3, h⟩ := hq_bind h
    obtain ⟨s4, hs4, h⟩ := hq_bind h
    have t := hq_fc_tr t (hq_fc_pi hs4 (by decide))
    obtain ⟨x5, hx5, h⟩ := hq_bind h
    obtain ⟨s6, hs6, h⟩ := hq_bind h
    have t := hq_fc_tr t (hq_fc_pi hs6 (by decide))
    obtain ⟨x7, hx7, h⟩ := hq_bind h
    obtain ⟨s8, hs8, h⟩ := hq_bind h
    have t := hq_fc_tr t (hq_fc_pi hs8 (by decide))
    have h := Option.some.inj h
    subst h
    exact t
  · rw [if_neg c1] at h
    have h := Option.some.inj h
    subst h
    exact t
def w_X2_clear : List (Nat × Option Nat) := [(163, some 0), (163, some 1)]
theorem f_X2_clear_fw {n : Nat} {s : hq_S} {y : hq_S} (h : f_X2_clear n s = some y) : hq_fc w_X2_clear s y := by
  unfold f_X2_clear at h
  have t := hq_fc_rf w_X2_clear s
  obtain ⟨s1, hs1, h⟩ := hq_bind h
  have t := hq_fc_tr t (hq_fc_pi hs1 (by decide))
  obtain ⟨s2, hs2, h⟩ := hq_bind h
  have t := hq_fc_tr t (hq_fc_pi hs2 (by decide))
  have h := Option.some.inj h
  subst h
  exact t
def w_X2_knownBy : List (Nat × Option Nat) := []
theorem f_X2_knownBy_fw {n : Nat} {s : hq_S} {y : (Int32 × hq_S)} (h : f_X2_knownBy n s = some y) : hq_fc w_X2_knownBy s y.2 := by
  unfold f_X2_knownBy at h
  have t := hq_fc_rf w_X2_knownBy s
  by_cases c1 : (hq_gi s 163 1) = (-1 : Int32)
  · rw [if_pos c1] at h
    have h := Option.some.inj h
    subst h
    exact t
  · rw [if_neg c1] at h
    have h := Option.some.inj h
    subst h
    exact t
def w_X2_knowBy : List (Nat × Option Nat) := [(163, some 1)]
theorem f_X2_knowBy_fw {n : Nat} {a1 : Int32} {s : hq_S} {y : (Int32 × hq_S)} (h : f_X2_knowBy n a1 s = some y) : hq_fc w_X2_knowBy s y.2 := by
  unfold f_X2_knowBy at h
  have t := hq_fc_rf w_X2_knowBy s
  by_cases c1 : a1 < (-1 : Int32)
  · rw [if_pos c1] at h
    have h := Option.some.inj h
    subst h
    exact t
  · rw [if_neg c1] at h
    by_cases c2 : (hq_gi s 163 0) < a1
    · rw [if_pos c2] at h
      have h := Option.some.inj h
      subst h
      exact t
    · rw [if_neg c2] at h
      obtain ⟨s3, hs3, h⟩ := hq_bind h
      have t := hq_fc_tr t (hq_fc_pi hs3 (by decide))
      have h := Option.some.inj h
      subst h
      exact t
def w_X2_addSight : List (Nat × Option Nat) := [(163, some 0), (164, none), (165, none), (166, none), (167, none), (168, none)]
theorem f_X2_addSight_fw {n : Nat} {a1 : Int32} {a2 : Int32} {a3 : Int32} {a4 : Int32} {s : hq_S} {y : (Int32 × hq_S)} (h : f_X2_addSight n a1 a2 a3 a4 s = some y) : hq_fc w_X2_addSight s y.2 := by
  unfold f_X2_addSight at h
  have t := hq_fc_rf w_X2_addSight s
  by_cases c1 : (hq_gi s 163 0) < (24 : Int32)
  · rw [if_pos c1] at h
    obtain ⟨s2, hs2, h⟩ := hq_bind h
    have t := hq_fc_tr t (hq_fc_st hs2 (by decide))
    obtain ⟨s3, hs3, h⟩ := hq_bind h
    have t := hq_fc_tr t (hq_fc_st hs3 (by decide))
    obtain ⟨s4, hs4, h⟩ := hq_bind h
    have t := hq_fc_tr t (hq_fc_st hs4 (by decide))
    obtain ⟨s5, hs5, h⟩ := hq_bind h
    have t := hq_fc_tr t (hq_fc_st hs5 (by decide))
    obtain ⟨s6, hs6, h⟩ := hq_bind h
    have t := hq_fc_tr t (hq_fc_st hs6 (by decide))
    obtain ⟨s7, hs7, h⟩ := hq_bind h
    have t := hq_fc_tr t (hq_fc_pi hs7 (by decide))
    have h := Option.some.inj h
    subst h
    exact t
  · rw [if_neg c1] at h
    have h := Option.some.inj h
    subst h
    exact t
def w_X2_addStrike : List (Nat × Option Nat) := [(163, some 0), (168, none)]
theorem f_X2_addStrike_fw {n : Nat} {a1 : Int32} {s : hq_S} {y : (Int32 × hq_S)} (h : f_X2_addStrike n a1 s = some y) : hq_fc w_X2_addStrike s y.2 := by
  unfold f_X2_addStrike at h
  have t := hq_fc_rf w_X2_addStrike s
  by_cases c1 : a1 < 0
  · rw [if_pos c1] at h
    have h := Option.some.inj h
    subst h
    exact t
  · rw [if_neg c1] at h
    by_cases c2 : a1 < (hq_gi s 163 0)
    · rw [if_pos c2] at h
      by_cases c3 : (hq_gi s 163 0) < (24 : Int32)
      · rw [if_pos c3] at h
        obtain ⟨s4, hs4, h⟩ := hq_bind h
        have t := hq_fc_tr t (hq_fc_st hs4 (by decide))
        obtain ⟨s5, hs5, h⟩ := hq_bind h
        have t := hq_fc_tr t (hq_fc_pi hs5 (by decide))
        have h := Option.some.inj h
        subst h
        exact t
      · rw [if_neg c3] at h
        have h := Option.some.inj h
        subst h
        exact t
    · rw [if_neg c2] at h
      have h := Option.some.inj h
      subst h
      exact t
def w_X2_standing : List (Nat × Option Nat) := []
theorem f_X2_standing_L11_B_fw {n : Nat} {a1 : Int32} {a2 : Int32} {a3 : Int32} {q11 : Int32 → Int32 → Int32 → hq_S → Option (Int32 × hq_S)} {s : hq_S} {y : (Int32 × hq_S)} (e11 : ∀ (a1 : Int32) (a2 : Int32) (a3 : Int32) (s : hq_S), q11 a1 a2 a3 s = some y → hq_fc w_X2_standing s y.2) (h : f_X2_standing_L11_B n q11 a1 a2 a3 s = some y) : hq_fc w_X2_standing s y.2 := by
  unfold f_X2_standing_L11_B at h
  have t := hq_fc_rf w_X2_standing s
  by_cases c2 : a3 < 0
  · rw [if_pos c2] at h
    have h := Option.some.inj h
    subst h
    exact t
  · rw [if_neg c2] at h
    obtain ⟨z3, hz3, h⟩ := hq_bind h
    exact hq_fc_tr t (e11 z3.1 z3.2 (a3 + Int32.ofInt (-1)) s h)
theorem f_X2_standing_L11_fw {n m : Nat} {a1 : Int32} {a2 : Int32} {a3 : Int32} {s : hq_S} {y : (Int32 × hq_S)} (h : f_X2_standing_L11 n m a1 a2 a3 s = some y) : hq_fc w_X2_standing s y.2 := by
  induction m generalizing a1 a2 a3 s with
  | zero => cases h
  | succ m ih => exact f_X2_standing_L11_B_fw (n := n) (a1 := a1) (a2 := a2) (a3 := a3) (q11 := f_X2_standing_L11 n m) (fun a1 a2 a3 s h => ih h) h
theorem f_X2_standing_fw {n : Nat} {s : hq_S} {y : (Int32 × hq_S)} (h : f_X2_standing n s = some y) : hq_fc w_X2_standing s y.2 := by
  unfold f_X2_standing at h
  have t := hq_fc_rf w_X2_standing s
  obtain ⟨y1, hy1, h⟩ := hq_bind h
  have t := hq_fc_tr t (hq_fc_mono (by decide) (f_X2_knownBy_fw hy1))
  exact hq_fc_tr t (f_X2_standing_L11_fw h)
def w_X8_lanesBetween : List (Nat × Option Nat) := []
theorem f_X8_lanesBetween_fw {n : Nat} {k0 : Nat} {a1 : Int32} {a2 : Int32} {s : hq_S} {y : (Int32 × hq_S)} (m0_ : hq_isS k0) (h : f_X8_lanesBetween n k0 a1 a2 s = some y) : hq_fc w_X8_lanesBetween s y.2 := by
  unfold f_X8_lanesBetween at h
  have t := hq_fc_rf w_X8_lanesBetween s
  obtain ⟨x1, hx1, h⟩ := hq_bind h
  have h := Option.some.inj h
  subst h
  exact t
def w_X8_onward : List (Nat × Option Nat) := []
theorem f_X8_onward_J41_fw {n : Nat} {k0 : Nat} {a1 : Int32} {a2 : Int32} {a3 : Int32} {q2 : Nat → Int32 → Int32 → Int32 → hq_S → Option (Int32 × hq_S)} {s : hq_S} {y : (Int32 × hq_S)} (e2 : ∀ (k0 : Nat) (a1 : Int32) (a2 : Int32) (a3 : Int32) (s : hq_S) (m0_ : hq_isS k0), q2 k0 a1 a2 a3 s = some y → hq_fc w_X8_onward s y.2) (m0_ : hq_isS k0) (h : f_X8_onward_J41 n q2 k0 a1 a2 a3 s = some y) : hq_fc w_X8_onward s y.2 := by
  unfold f_X8_onward_J41 at h
  have t := hq_fc_rf w_X8_onward s
  exact hq_fc_tr t (e2 k0 a1 a2 (a3 + (1 : Int32)) s m0_ h)
theorem f_X8_onward_L2_B_fw {n : Nat} {k0 : Nat} {a1 : Int32} {a2 : Int32} {a3 : Int32} {q2 : Nat → Int32 → Int32 → Int32 → hq_S → Option (Int32 × hq_S)} {s : hq_S} {y : (Int32 × hq_S)} (e2 : ∀ (k0 : Nat) (a1 : Int32) (a2 : Int32) (a3 : Int32) (s : hq_S) (m0_ : hq_isS k0), q2 k0 a1 a2 a3 s = some y → hq_fc w_X8_onward s y.2) (m0_ : hq_isS k0) (h : f_X8_onward_L2_B n q2 k0 a1 a2 a3 s = some y) : hq_fc w_X8_onward s y.2 := by
  unfold f_X8_onward_L2_B at h
  have t := hq_fc_rf w_X8_onward s
  by_cases c1 : a3 < (hq_gi s k0 0)
  · rw [if_pos c1] at h
    obtain ⟨x2, hx2, h⟩ := hq_bind h
    by_cases c3 : ((x2 >>> (a3 &&& 31)) &&& (1 : Int32)) = (1 : Int32)
    · rw [if_pos c3] at h
      obtain ⟨y4, hy4, h⟩ := hq_bind h
      have t := hq_fc_tr t (hq_fc_mono (by decide) (f_X8_lanesBetween_fw m0_ hy4))
      obtain ⟨y5, hy5, h⟩ := hq_bind h
      have t := hq_fc_tr t (hq_fc_mono (by decide) (f_X8_lanesBetween_fw m0_ hy5))
      by_cases c6 : y4.1 < y5.1
      · rw [if_pos c6] at h
        have h := Option.some.inj h
        subst h
        exact t
      · rw [if_neg c6] at h
        exact hq_fc_tr t (f_X8_onward_J41_fw e2 m0_ h)
    · rw [if_neg c3] at h
      exact hq_fc_tr t (f_X8_onward_J41_fw e2 m0_ h)
  · rw [if_neg c1] at h
    have h := Option.some.inj h
    subst h
    exact t
theorem f_X8_onward_L2_fw {n m : Nat} {k0 : Nat} {a1 : Int32} {a2 : Int32} {a3 : Int32} {s : hq_S} {y : (Int32 × hq_S)} (m0_ : hq_isS k0) (h : f_X8_onward_L2 n m k0 a1 a2 a3 s = some y) : hq_fc w_X8_onward s y.2 := by
  induction m generalizing k0 a1 a2 a3 s with
  | zero => cases h
  | succ m ih => exact f_X8_onward_L2_B_fw (n := n) (k0 := k0) (a1 := a1) (a2 := a2) (a3 := a3) (q2 := f_X8_onward_L2 n m) (fun k0 a1 a2 a3 s m0_ h => ih m0_ h) m0_ h
theorem f_X8_onward_fw {n : Nat} {k0 : Nat} {a1 : Int32} {a2 : Int32} {s : hq_S} {y : (Int32 × hq_S)} (m0_ : hq_isS k0) (h : f_X8_onward n k0 a1 a2 s = some y) : hq_fc w_X8_onward s y.2 := by
  unfold f_X8_onward at h
  have t := hq_fc_rf w_X8_onward s
  exact hq_fc_tr t (f_X8_onward_L2_fw m0_ h)
def w_X5_isFree : List (Nat × Option Nat) := []
theorem f_X5_isFree_fw {n : Nat} {k0 : Nat} {a1 : Int32} {s : hq_S} {y : (Int32 × hq_S)} (m0_ : hq_isN k0) (h : f_X5_isFree n k0 a1 s = some y) : hq_fc w_X5_isFree s y.2 := by
  unfold f_X5_isFree at h
  have t := hq_fc_rf w_X5_isFree s
  obtain ⟨x1, hx1, h⟩ := hq_bind h
  by_cases c2 : x1 = (-2 : Int32)
  · rw [if_pos c2] at h
    have h := Option.some.inj h
    subst h
    exact t
  · rw [if_neg c2] at h
    have h := Option.some.inj h
    subst h
    exact t
def w_X4_isTold : List (Nat × Option Nat) := []
theorem f_X4_isTold_fw {n : Nat} {k0 : Nat} {a1 : Int32} {s : hq_S} {y : (Int32 × hq_S)} (m0_ : hq_isL k0) (h : f_X4_isTold n k0 a1 s = some y) : hq_fc w_X4_isTold s y.2 := by
  unfold f_X4_isTold at h
  have t := hq_fc_rf w_X4_isTold s
  obtain ⟨x1, hx1, h⟩ := hq_bind h
  by_cases c2 : 0 < x1
  · rw [if_pos c2] at h
    have h := Option.some.inj h
    subst h
    exact t
  · rw [if_neg c2] at h
    have h := Option.some.inj h
    subst h
    exact t
def w_X3_nearest : List (Nat × Option Nat) := []
theorem f_X3_nearest_L5_B_fw {n : Nat} {a1 : Int32} {a2 : Int32} {a3 : Int32} {q5 : Int32 → Int32 → Int32 → hq_S → Option (Int32 × hq_S)} {s : hq_S} {y : (Int32 × hq_S)} (e5 : ∀ (a1 : Int32) (a2 : Int32) (a3 : Int32) (s : hq_S), q5 a1 a2 a3 s = some y → hq_fc w_X3_nearest s y.2) (h : f_X3_nearest_L5_B n q5 a1 a2 a3 s = some y) : hq_fc w_X3_nearest s y.2 := by
  unfold f_X3_nearest_L5_B at h
  have t := hq_fc_rf w_X3_nearest s
  have m1 : hq_isT (hq_gr s 113 0) := hq_ifT h
  skip
  rw [if_pos m1] at h
  by_cases c2 : a3 < (hq_gi s (hq_gr s 113 0) 7)
  · rw [if_pos c2] at h
    have m3 : hq_isS (hq_gr s 113 1) := hq_ifT h
    skip
    rw [if_pos m3] at h
    have m4 : hq_isN (hq_gr s 113 2) := hq_ifT h
    skip
    rw [if_pos m4] at h
    obtain ⟨x5, hx5, h⟩ := hq_bind h
    obtain ⟨y6, hy6, h⟩ := hq_bind h
    have t := hq_fc_tr t (hq_fc_mono (by decide) (f_X8_lanesBetween_fw m3 hy6))
    exact hq_fc_tr t (e5 a1 (hq_min a2 y6.1) (a3 + (1 : Int32)) y6.2 h)
  · rw [if_neg c2] at h
    have h := Option.some.inj h
    subst h
    exact t
theorem f_X3_nearest_L5_fw {n m : Nat} {a1 : Int32} {a2 : Int32} {a3 : Int32} {s : hq_S} {y : (Int32 × hq_S)} (h : f_X3_nearest_L5 n m a1 a2 a3 s = some y) : hq_fc w_X3_nearest s y.2 := by
  induction m generalizing a1 a2 a3 s with
  | zero => cases h
  | succ m ih => exact f_X3_nearest_L5_B_fw (n := n) (a1 := a1) (a2 := a2) (a3 := a3) (q5 := f_X3_nearest_L5 n m) (fun a1 a2 a3 s h => ih h) h
theorem f_X3_nearest_fw {n : Nat} {a1 : Int32} {s : hq_S} {y : (Int32 × hq_S)} (h : f_X3_nearest n a1 s = some y) : hq_fc w_X3_nearest s y.2 := by
  unfold f_X3_nearest at h
  have t := hq_fc_rf w_X3_nearest s
  exact hq_fc_tr t (f_X3_nearest_L5_fw h)
def w_X4_joined : List (Nat × Option Nat) := []
theorem f_X4_joined_J332_fw {n : Nat} {a0 : Int32} {j1 : Int64} {j3 : Int64} {s : hq_S} {y : (Int64 × hq_S)} (h : f_X4_joined_J332 n a0 j1 j3 s = some y) : hq_fc w_X4_joined s y.2 := by
  unfold f_X4_joined_J332 at h
  have t := hq_fc_rf w_X4_joined s
  have h := Option.some.inj h
  subst h
  exact t
theorem f_X4_joined_J210_fw {n : Nat} {a0 : Int32} {j1 : Int64} {j3 : Int64} {s : hq_S} {y : (Int64 × hq_S)} (h : f_X4_joined_J210 n a0 j1 j3 s = some y) : hq_fc w_X4_joined s y.2 := by
  unfold f_X4_joined_J210 at h
  have t := hq_fc_rf w_X4_joined s
  have h := Option.some.inj h
  subst h
  exact t
theorem f_X4_joined_J128_fw {n : Nat} {a0 : Int32} {j1 : Int64} {j3 : Int64} {s : hq_S} {y : (Int64 × hq_S)} (h : f_X4_joined_J128 n a0 j1 j3 s = some y) : hq_fc w_X4_joined s y.2 := by
  unfold f_X4_joined_J128 at h
  have t := hq_fc_rf w_X4_joined s
  have h := Option.some.inj h
  subst h
  exact t
theorem f_X4_joined_J158_fw {n : Nat} {a0 : Int32} {j1 : Int64} {j3 : Int64} {s : hq_S} {y : (Int64 × hq_S)} (h : f_X4_joined_J158 n a0 j1 j3 s = some y) : hq_fc w_X4_joined s y.2 := by
  unfold f_X4_joined_J158 at h
  have t := hq_fc_rf w_X4_joined s
  have h := Option.some.inj h
  subst h
  exact t
theorem f_X4_joined_fw {n : Nat} {a0 : Int32} {j1 : Int64} {j3 : Int64} {s : hq_S} {y : (Int64 × hq_S)} (h : f_X4_joined n a0 j1 j3 s = some y) : hq_fc w_X4_joined s y.2 := by
  unfold f_X4_joined at h
  have t := hq_fc_rf w_X4_joined s
  by_cases c1 : a0 = (19 : Int32)
  · rw [if_pos c1] at h
    by_cases c2 : (lg_cmp j1 (0 : Int64)) = 0
    · rw [if_pos c2] at h
      have h := Option.some.inj h
      subst h
      exact t
    · rw [if_neg c2] at h
      by_cases c3 : (lg_cmp j3 (0 : Int64)) = 0
      · rw [if_pos c3] at h
        have h := Option.some.inj h
        subst h
        exact t
      · rw [if_neg c3] at h
        have h := Option.some.inj h
        subst h
        exact t
  rw [if_neg c1] at h
  by_cases c4 : a0 = (20 : Int32)
  · rw [if_pos c4] at h
    by_cases c5 : (lg_cmp j1 (0 : Int64)) = 0
    · rw [if_pos c5] at h
      by_cases c6 : (lg_cmp j3 (0 : Int64)) = 0
      · rw [if_pos c6] at h
        have h := Option.some.inj h
        subst h
        exact t
      · rw [if_neg c6] at h
        exact hq_fc_tr t (f_X4_joined_J332_fw h)
    · rw [if_neg c5] at h
      exact hq_fc_tr t (f_X4_joined_J332_fw h)
  rw [if_neg c4] at h
  by_cases c7 : a0 = (42 : Int32)
  · rw [if_pos c7] at h
    by_cases c8 : (lg_cmp j3 (0 : Int64)) = 0
    · rw [if_pos c8] at h
      exact hq_fc_tr t (f_X4_joined_J210_fw h)
    · rw [if_neg c8] at h
      obtain ⟨z9, hz9, h⟩ := hq_bind h
      obtain ⟨x11, hx11, h⟩ := hq_bind h
      obtain ⟨z12, hz12, h⟩ := hq_bind h
      by_cases c14 : (lg_cmp x11 z12) < 0
      · rw [if_pos c14] at h
        have h := Option.some.inj h
        subst h
        exact t
      · rw [if_neg c14] at h
        exact hq_fc_tr t (f_X4_joined_J210_fw h)
  rw [if_neg c7] at h
  by_cases c15 : a0 = (43 : Int32)
  · rw [if_pos c15] at h
    by_cases c16 : 0 < (lg_cmp (j1 + j3) (1000000000000 : Int64))
    · rw [if_pos c16] at h
      exact hq_fc_tr t (f_X4_joined_J128_fw h)
    · rw [if_neg c16] at h
      by_cases c17 : (lg_cmp (j1 + j3) (-1000000000000 : Int64)) < 0
      · rw [if_pos c17] at h
        exact hq_fc_tr t (f_X4_joined_J128_fw h)
      · rw [if_neg c17] at h
        have h := Option.some.inj h
        subst h
        exact t
  rw [if_neg c15] at h
  by_cases c18 : a0 = (45 : Int32)
  · rw [if_pos c18] at h
    by_cases c19 : 0 < (lg_cmp (j1 - j3) (1000000000000 : Int64))
    · rw [if_pos c19] at h
      exact hq_fc_tr t (f_X4_joined_J158_fw h)
    · rw [if_neg c19] at h
      by_cases c20 : (lg_cmp (j1 - j3) (-1000000000000 : Int64)) < 0
      · rw [if_pos c20] at h
        exact hq_fc_tr t (f_X4_joined_J158_fw h)
      · rw [if_neg c20] at h
        have h := Option.some.inj h
        subst h
        exact t
  rw [if_neg c18] at h
  by_cases c21 : a0 = (47 : Int32)
  · rw [if_pos c21] at h
    by_cases c22 : (lg_cmp j3 (0 : Int64)) = 0
    · rw [if_pos c22] at h
      have h := Option.some.inj h
      subst h
      exact t
    · rw [if_neg c22] at h
      obtain ⟨x23, hx23, h⟩ := hq_bind h
      have h := Option.some.inj h
      subst h
      exact t
  rw [if_neg c21] at h
  by_cases c24 : a0 = (60 : Int32)
  · rw [if_pos c24] at h
    by_cases c25 : (lg_cmp j1 j3) < 0
    · rw [if_pos c25] at h
      have h := Option.some.inj h
      subst h
      exact t
    · rw [if_neg c25] at h
      have h := Option.some.inj h
      subst h
      exact t
  rw [if_neg c24] at h
  by_cases c26 : a0 = (61 : Int32)
  · rw [if_pos c26] at h
    by_cases c27 : (lg_cmp j1 j3) = 0
    · rw [if_pos c27] at h
      have h := Option.some.inj h
      subst h
      exact t
    · rw [if_neg c27] at h
      have h := Option.some.inj h
      subst h
      exact t
  rw [if_neg c26] at h
  by_cases c28 : a0 = (62 : Int32)
  · rw [if_pos c28] at h
    by_cases c29 : 0 < (lg_cmp j1 j3)
    · rw [if_pos c29] at h
      have h := Option.some.inj h
      subst h
      exact t
    · rw [if_neg c29] at h
      have h := Option.some.inj h
      subst h
      exact t
  rw [if_neg c28] at h
  by_cases c30 : a0 = (256 : Int32)
  · rw [if_pos c30] at h
    by_cases c31 : 0 < (lg_cmp j1 j3)
    · rw [if_pos c31] at h
      have h := Option.some.inj h
      subst h
      exact t
    · rw [if_neg c31] at h
      have h := Option.some.inj h
      subst h
      exact t
  rw [if_neg c30] at h
  by_cases c32 : a0 = (257 : Int32)
  · rw [if_pos c32] at h
    by_cases c33 : (lg_cmp j1 j3) = 0
    · rw [if_pos c33] at h
      have h := Option.some.inj h
      subst h
      exact t
    · rw [if_neg c33] at h
      have h := Option.some.inj h
      subst h
      exact t
  rw [if_neg c32] at h
  by_cases c34 : a0 = (258 : Int32)
  · rw [if_pos c34] at h
    by_cases c35 : (lg_cmp j1 j3) < 0
    · rw [if_pos c35] at h
      have h := Option.some.inj h
      subst h
      exact t
    · rw [if_neg c35] at h
      have h := Option.some.inj h
      subst h
      exact t
  rw [if_neg c34] at h
  have h := Option.some.inj h
  subst h
  exact t
def w_X3_hadOfThief : List (Nat × Option Nat) := []
theorem f_X3_hadOfThief_fw {n : Nat} {a1 : Int32} {s : hq_S} {y : (Int32 × hq_S)} (h : f_X3_hadOfThief n a1 s = some y) : hq_fc w_X3_hadOfThief s y.2 := by
  unfold f_X3_hadOfThief at h
  have t := hq_fc_rf w_X3_hadOfThief s
  have m1 : hq_isN (hq_gr s 113 2) := hq_ifT h
  skip
  rw [if_pos m1] at h
  obtain ⟨x2, hx2, h⟩ := hq_bind h
  have h := Option.some.inj h
  subst h
  exact t
def w_X3_placeOfThief : List (Nat × Option Nat) := []
theorem f_X3_placeOfThief_fw {n : Nat} {a1 : Int32} {s : hq_S} {y : (Int32 × hq_S)} (h : f_X3_placeOfThief n a1 s = some y) : hq_fc w_X3_placeOfThief s y.2 := by
  unfold f_X3_placeOfThief at h
  have t := hq_fc_rf w_X3_placeOfThief s
  have m1 : hq_isN (hq_gr s 113 2) := hq_ifT h
  skip
  rw [if_pos m1] at h
  obtain ⟨x2, hx2, h⟩ := hq_bind h
  have h := Option.some.inj h
  subst h
  exact t
def w_X2_areSo : List (Nat × Option Nat) := []
theorem f_X2_areSo_J83_fw {n : Nat} {a1 : Int32} {a2 : Int32} {a4 : Int32} {a5 : Int32} {q3 : Int32 → Int32 → Int32 → hq_S → Option (Int32 × hq_S)} {s : hq_S} {y : (Int32 × hq_S)} (e3 : ∀ (a1 : Int32) (a2 : Int32) (a4 : Int32) (o5 : Option Value) (s : hq_S), q3 a1 a2 a4 s = some y → hq_fc w_X2_areSo s y.2) (h : f_X2_areSo_J83 n q3 a1 a2 a4 a5 s = some y) : hq_fc w_X2_areSo s y.2 := by
  unfold f_X2_areSo_J83 at h
  have t := hq_fc_rf w_X2_areSo s
  exact hq_fc_tr t (e3 a1 a2 (a4 + (1 : Int32)) none s h)
theorem f_X2_areSo_L3_B_fw {n : Nat} {a1 : Int32} {a2 : Int32} {a4 : Int32} {q3 : Int32 → Int32 → Int32 → hq_S → Option (Int32 × hq_S)} {s : hq_S} {y : (Int32 × hq_S)} (e3 : ∀ (a1 : Int32) (a2 : Int32) (a4 : Int32) (o5 : Option Value) (s : hq_S), q3 a1 a2 a4 s = some y → hq_fc w_X2_areSo s y.2) (h : f_X2_areSo_L3_B n q3 a1 a2 a4 s = some y) : hq_fc w_X2_areSo s y.2 := by
  unfold f_X2_areSo_L3_B at h
  have t := hq_fc_rf w_X2_areSo s
  by_cases c1 : a4 < (hq_gi s 163 0)
  · rw [if_pos c1] at h
    obtain ⟨z2, hz2, h⟩ := hq_bind h
    by_cases c6 : z2 = 0
    · rw [if_pos c6] at h
      exact hq_fc_tr t (f_X2_areSo_J83_fw e3 h)
    · rw [if_neg c6] at h
      obtain ⟨x7, hx7, h⟩ := hq_bind h
      obtain ⟨y8, hy8, h⟩ := hq_bind h
      have t := hq_fc_tr t (hq_fc_mono (by decide) (f_X3_placeOfThief_fw hy8))
      obtain ⟨x9, hx9, h⟩ := hq_bind h
      obtain ⟨z10, hz10, h⟩ := hq_bind h
      obtain ⟨x12, hx12, h⟩ := hq_bind h
      by_cases c13 : z10 = x12
      · rw [if_pos c13] at h
        exact hq_fc_tr t (f_X2_areSo_J83_fw e3 h)
      · rw [if_neg c13] at h
        have h := Option.some.inj h
        subst h
        exact t
  · rw [if_neg c1] at h
    have h := Option.some.inj h
    subst h
    exact t
theorem f_X2_areSo_L3_fw {n m : Nat} {a1 : Int32} {a2 : Int32} {a4 : Int32} {s : hq_S} {y : (Int32 × hq_S)} (h : f_X2_areSo_L3 n m a1 a2 a4 s = some y) : hq_fc w_X2_areSo s y.2 := by
  induction m generalizing a1 a2 a4 s with
  | zero => cases h
  | succ m ih => exact f_X2_areSo_L3_B_fw (n := n) (a1 := a1) (a2 := a2) (a4 := a4) (q3 := f_X2_areSo_L3 n m) (fun a1 a2 a4 _ s h => ih h) h
theorem f_X2_areSo_fw {n : Nat} {a1 : Int32} {a2 : Int32} {s : hq_S} {y : (Int32 × hq_S)} (h : f_X2_areSo n a1 a2 s = some y) : hq_fc w_X2_areSo s y.2 := by
  unfold f_X2_areSo at h
  have t := hq_fc_rf w_X2_areSo s
  exact hq_fc_tr t (f_X2_areSo_L3_fw h)
def w_X2_lastHour : List (Nat × Option Nat) := []
theorem f_X2_lastHour_L4_B_fw {n : Nat} {a1 : Int32} {a2 : Int32} {q4 : Int32 → Int32 → hq_S → Option (Int32 × hq_S)} {s : hq_S} {y : (Int32 × hq_S)} (e4 : ∀ (a1 : Int32) (a2 : Int32) (s : hq_S), q4 a1 a2 s = some y → hq_fc w_X2_lastHour s y.2) (h : f_X2_lastHour_L4_B n q4 a1 a2 s = some y) : hq_fc w_X2_lastHour s y.2 := by
  unfold f_X2_lastHour_L4_B at h
  have t := hq_fc_rf w_X2_lastHour s
  by_cases c1 : a2 < (hq_gi s 163 0)
  · rw [if_pos c1] at h
    obtain ⟨x2, hx2, h⟩ := hq_bind h
    obtain ⟨z3, hz3, h⟩ := hq_bind h
    exact hq_fc_tr t (e4 z3 (a2 + (1 : Int32)) s h)
  · rw [if_neg c1] at h
    have h := Option.some.inj h
    subst h
    exact t
theorem f_X2_lastHour_L4_fw {n m : Nat} {a1 : Int32} {a2 : Int32} {s : hq_S} {y : (Int32 × hq_S)} (h : f_X2_lastHour_L4 n m a1 a2 s = some y) : hq_fc w_X2_lastHour s y.2 := by
  induction m generalizing a1 a2 s with
  | zero => cases h
  | succ m ih => exact f_X2_lastHour_L4_B_fw (n := n) (a1 := a1) (a2 := a2) (q4 := f_X2_lastHour_L4 n m) (fun a1 a2 s h => ih h) h
theorem f_X2_lastHour_fw {n : Nat} {s : hq_S} {y : (Int32 × hq_S)} (h : f_X2_lastHour n s = some y) : hq_fc w_X2_lastHour s y.2 := by
  unfold f_X2_lastHour at h
  have t := hq_fc_rf w_X2_lastHour s
  exact hq_fc_tr t (f_X2_lastHour_L4_fw h)
def w_X2_hadIn : List (Nat × Option Nat) := []
theorem f_X2_hadIn_fw {n : Nat} {a1 : Int32} {a2 : Int32} {s : hq_S} {y : (Int32 × hq_S)} (h : f_X2_hadIn n a1 a2 s = some y) : hq_fc w_X2_hadIn s y.2 := by
  unfold f_X2_hadIn at h
  have t := hq_fc_rf w_X2_hadIn s
  obtain ⟨x1, hx1, h⟩ := hq_bind h
  have h := Option.some.inj h
  subst h
  exact t
def w_X2_worstLeft : List (Nat × Option Nat) := []
theorem f_X2_worstLeft_L18_B_fw {n : Nat} {a1 : Int32} {a2 : Int32} {a3 : Int32} {a4 : Int32} {a5 : Int32} {a6 : Int32} {q5 : Int32 → Int32 → Int32 → Int32 → hq_S → Option (Int32 × hq_S)} {q18 : Int32 → Int32 → Int32 → Int32 → Int32 → Int32 → hq_S → Option (Int32 × hq_S)} {s : hq_S} {y : (Int32 × hq_S)} (e5 : ∀ (a1 : Int32) (a2 : Int32) (a3 : Int32) (a4 : Int32) (o5 : Option Value) (o6 : Option Value) (o7 : Option Value) (s : hq_S), q5 a1 a2 a3 a4 s = some y → hq_fc w_X2_worstLeft s y.2) (e18 : ∀ (a1 : Int32) (a2 : Int32) (a3 : Int32) (a4 : Int32) (a5 : Int32) (a6 : Int32) (o7 : Option Value) (s : hq_S), q18 a1 a2 a3 a4 a5 a6 s = some y → hq_fc w_X2_worstLeft s y.2) (h : f_X2_worstLeft_L18_B n q5 q18 a1 a2 a3 a4 a5 a6 s = some y) : hq_fc w_X2_worstLeft s y.2 := by
  unfold f_X2_worstLeft_L18_B at h
  have t := hq_fc_rf w_X2_worstLeft s
  by_cases c2 : a6 < (10 : Int32)
  · rw [if_pos c2] at h
    obtain ⟨z3, hz3, h⟩ := hq_bind h
    obtain ⟨z6, hz6, h⟩ := hq_bind h
    have t : hq_fc w_X2_worstLeft s z6.2 := by
      clear h
      have h := hz6
      by_cases c7 : z3 = 0
      · rw [if_pos c7] at h
        cases h
        exact t
      · rw [if_neg c7] at h
        obtain ⟨y8, hy8, h⟩ := hq_bind h
        have t := hq_fc_tr t (hq_fc_mono (by decide) (f_X2_hadIn_fw hy8))
        obtain ⟨y9, hy9, h⟩ := hq_bind h
        have t := hq_fc_tr t (hq_fc_mono (by decide) (f_X2_hadIn_fw hy9))
        by_cases c10 : y8.1 = y9.1
        · rw [if_pos c10] at h
          cases h
          exact t
        · rw [if_neg c10] at h
          cases h
          exact t
    exact hq_fc_tr t (e18 a1 a2 a3 a4 (a5 + z6.1) (a6 + (1 : Int32)) none z6.2 h)
  · rw [if_neg c2] at h
    exact hq_fc_tr t (e5 a1 a2 (hq_max a3 a5) (a4 + (1 : Int32)) none none none s h)
theorem f_X2_worstLeft_L18_fw {n m : Nat} {a1 : Int32} {a2 : Int32} {a3 : Int32} {a4 : Int32} {a5 : Int32} {a6 : Int32} {q5 : Int32 → Int32 → Int32 → Int32 → hq_S → Option (Int32 × hq_S)} {s : hq_S} {y : (Int32 × hq_S)} (e5 : ∀ (a1 : Int32) (a2 : Int32) (a3 : Int32) (a4 : Int32) (o5 : Option Value) (o6 : Option Value) (o7 : Option Value) (s : hq_S), q5 a1 a2 a3 a4 s = some y → hq_fc w_X2_worstLeft s y.2) (h : f_X2_worstLeft_L18 n q5 m a1 a2 a3 a4 a5 a6 s = some y) : hq_fc w_X2_worstLeft s y.2 := by
  induction m generalizing a1 a2 a3 a4 a5 a6 s with
  | zero => cases h
  | succ m ih => exact f_X2_worstLeft_L18_B_fw (n := n) (a1 := a1) (a2 := a2) (a3 := a3) (a4 := a4) (a5 := a5) (a6 := a6) (q18 := f_X2_worstLeft_L18 n q5 m) e5 (fun a1 a2 a3 a4 a5 a6 _ s h => ih h) h
theorem f_X2_worstLeft_L5_B_fw {n : Nat} {a1 : Int32} {a2 : Int32} {a3 : Int32} {a4 : Int32} {q5 : Int32 → Int32 → Int32 → Int32 → hq_S → Option (Int32 × hq_S)} {s : hq_S} {y : (Int32 × hq_S)} (e5 : ∀ (a1 : Int32) (a2 : Int32) (a3 : Int32) (a4 : Int32) (o5 : Option Value) (o6 : Option Value) (o7 : Option Value) (s : hq_S), q5 a1 a2 a3 a4 s = some y → hq_fc w_X2_worstLeft s y.2) (h : f_X2_worstLeft_L5_B n q5 a1 a2 a3 a4 s = some y) : hq_fc w_X2_worstLeft s y.2 := by
  unfold f_X2_worstLeft_L5_B at h
  have t := hq_fc_rf w_X2_worstLeft s
  by_cases c1 : a4 < (10 : Int32)
  · rw [if_pos c1] at h
    exact hq_fc_tr t (f_X2_worstLeft_L18_fw e5 h)
  · rw [if_neg c1] at h
    have h := Option.some.inj h
    subst h
    exact t
theorem f_X2_worstLeft_L5_fw {n m : Nat} {a1 : Int32} {a2 : Int32} {a3 : Int32} {a4 : Int32} {s : hq_S} {y : (Int32 × hq_S)} (h : f_X2_worstLeft_L5 n m a1 a2 a3 a4 s = some y) : hq_fc w_X2_worstLeft s y.2 := by
  induction m generalizing a1 a2 a3 a4 s with
  | zero => cases h
  | succ m ih => exact f_X2_worstLeft_L5_B_fw (n := n) (a1 := a1) (a2 := a2) (a3 := a3) (a4 := a4) (q5 := f_X2_worstLeft_L5 n m) (fun a1 a2 a3 a4 _ _ _ s h => ih h) h
theorem f_X2_worstLeft_fw {n : Nat} {a1 : Int32} {a2 : Int32} {s : hq_S} {y : (Int32 × hq_S)} (h : f_X2_worstLeft n a1 a2 s = some y) : hq_fc w_X2_worstLeft s y.2 := by
  unfold f_X2_worstLeft at h
  have t := hq_fc_rf w_X2_worstLeft s
  exact hq_fc_tr t (f_X2_worstLeft_L5_fw h)
def w_X2_chooseQuestion : List (Nat × Option Nat) := [(163, some 8), (163, some 9)]
theorem f_X2_chooseQuestion_L17_B_fw {n : Nat} {a1 : Int32} {a2 : Int32} {q17 : Int32 → Int32 → hq_S → Option hq_S} {s : hq_S} {y : hq_S} (e17 : ∀ (a1 : Int32) (a2 : Int32) (o3 : Option Value) (s : hq_S), q17 a1 a2 s = some y → hq_fc w_X2_chooseQuestion s y) (h : f_X2_chooseQuestion_L17_B n q17 a1 a2 s = some y) : hq_fc w_X2_chooseQuestion s y := by
  unfold f_X2_chooseQuestion_L17_B at h
  have t := hq_fc_rf w_X2_chooseQuestion s
  by_cases c4 : (60 : Int32) < a2
  · rw [if_pos c4] at h
    have h := Option.some.inj h
    subst h
    exact t
  · rw [if_neg c4] at h
    obtain ⟨y5, hy5, h⟩ := hq_bind h
    have t := hq_fc_tr t (hq_fc_mono (by decide) (f_X2_worstLeft_fw hy5))
    obtain ⟨z6, hz6, h⟩ := hq_bind h
    obtain ⟨s8, hs8, h⟩ := hq_bind h
    have t := hq_fc_tr t (hq_fc_pi hs8 (by decide))
    obtain ⟨s9, hs9, h⟩ := hq_bind h
    have t := hq_fc_tr t (hq_fc_pi hs9 (by decide))
    exact hq_fc_tr t (e17 a1 (a2 + (1 : Int32)) none s9 h)
theorem f_X2_chooseQuestion_L17_fw {n m : Nat} {a1 : Int32} {a2 : Int32} {s : hq_S} {y : hq_S} (h : f_X2_chooseQuestion_L17 n m a1 a2 s = some y) : hq_fc w_X2_chooseQuestion s y := by
  induction m generalizing a1 a2 s with
  | zero => cases h
  | succ m ih => exact f_X2_chooseQuestion_L17_B_fw (n := n) (a1 := a1) (a2 := a2) (q17 := f_X2_chooseQuestion_L17 n m) (fun a1 a2 _ s h => ih h) h
theorem f_X2_chooseQuestion_fw {n : Nat} {a1 : Int32} {s : hq_S} {y : hq_S} (h : f_X2_chooseQuestion n a1 s = some y) : hq_fc w_X2_chooseQuestion s y := by
  unfold f_X2_chooseQuestion at h
  have t := hq_fc_rf w_X2_chooseQuestion s
  obtain ⟨s1, hs1, h⟩ := hq_bind h
  have t := hq_fc_tr t (hq_fc_pi hs1 (by decide))
  obtain ⟨y2, hy2, h⟩ := hq_bind h
  have t := hq_fc_tr t (hq_fc_mono (by decide) (f_X2_worstLeft_fw hy2))
  obtain ⟨s3, hs3, h⟩ := hq_bind h
  have t := hq_fc_tr t (hq_fc_pi hs3 (by decide))
  exact hq_fc_tr t (f_X2_chooseQuestion_L17_fw h)
def w_X3_setUp : List (Nat × Option Nat) := [(113, some 0), (113, some 1), (113, some 2), (113, some 3), (113, some 4), (113, some 5)]
theorem f_X3_setUp_fw {n : Nat} {k1 : Nat} {k2 : Nat} {k3 : Nat} {a4 : Int32} {s : hq_S} {y : hq_S} (m1_ : hq_isT k1) (m2_ : hq_isS k2) (m3_ : hq_isN k3) (h : f_X3_setUp n k1 k2 k3 a4 s = some y) : hq_fc w_X3_setUp s y := by
  unfold f_X3_setUp at h
  have t := hq_fc_rf w_X3_setUp s
  obtain ⟨s1, hs1, h⟩ := hq_bind h
  have t := hq_fc_tr t (hq_fc_pr hs1 (by decide))
  obtain ⟨s2, hs2, h⟩ := hq_bind h
  have t := hq_fc_tr t (hq_fc_pr hs2 (by decide))
  obtain ⟨s3, hs3, h⟩ := hq_bind h
  have t := hq_fc_tr t (hq_fc_pr hs3 (by decide))
  obtain ⟨s4, hs4, h⟩ := hq_bind h
  have t := hq_fc_tr t (hq_fc_pi hs4 (by decide))
  obtain ⟨s5, hs5, h⟩ := hq_bind h
  have t := hq_fc_tr t (hq_fc_pi hs5 (by decide))
  obtain ⟨s6, hs6, h⟩ := hq_bind h
  have t := hq_fc_tr t (hq_fc_pi hs6 (by decide))
  have h := Option.some.inj h
  subst h
  exact t
def w_X5_howManyCaught : List (Nat × Option Nat) := []
theorem f_X5_howManyCaught_L4_B_fw {n : Nat} {k0 : Nat} {a1 : Int32} {a2 : Int32} {a3 : Int32} {q4 : Nat → Int32 → Int32 → Int32 → hq_S → Option (Int32 × hq_S)} {s : hq_S} {y : (Int32 × hq_S)} (e4 : ∀ (k0 : Nat) (a1 : Int32) (a2 : Int32) (a3 : Int32) (s : hq_S) (m0_ : hq_isN k0), q4 k0 a1 a2 a3 s = some y → hq_fc w_X5_howManyCaught s y.2) (m0_ : hq_isN k0) (h : f_X5_howManyCaught_L4_B n q4 k0 a1 a2 a3 s = some y) : hq_fc w_X5_howManyCaught s y.2 := by
  unfold f_X5_howManyCaught_L4_B at h
  have t := hq_fc_rf w_X5_howManyCaught s
  by_cases c1 : a3 < a1
  · rw [if_pos c1] at h
    obtain ⟨y2, hy2, h⟩ := hq_bind h
    have t := hq_fc_tr t (hq_fc_mono (by decide) (f_X5_isFree_fw m0_ hy2))
    obtain ⟨z3, hz3, h⟩ := hq_bind h
    exact hq_fc_tr t (e4 k0 a1 (a2 + z3) (a3 + (1 : Int32)) y2.2 m0_ h)
  · rw [if_neg c1] at h
    have h := Option.some.inj h
    subst h
    exact t
theorem f_X5_howManyCaught_L4_fw {n m : Nat} {k0 : Nat} {a1 : Int32} {a2 : Int32} {a3 : Int32} {s : hq_S} {y : (Int32 × hq_S)} (m0_ : hq_isN k0) (h : f_X5_howManyCaught_L4 n m k0 a1 a2 a3 s = some y) : hq_fc w_X5_howManyCaught s y.2 := by
  induction m generalizing k0 a1 a2 a3 s with
  | zero => cases h
  | succ m ih => exact f_X5_howManyCaught_L4_B_fw (n := n) (k0 := k0) (a1 := a1) (a2 := a2) (a3 := a3) (q4 := f_X5_howManyCaught_L4 n m) (fun k0 a1 a2 a3 s m0_ h => ih m0_ h) m0_ h
theorem f_X5_howManyCaught_fw {n : Nat} {k0 : Nat} {a1 : Int32} {s : hq_S} {y : (Int32 × hq_S)} (m0_ : hq_isN k0) (h : f_X5_howManyCaught n k0 a1 s = some y) : hq_fc w_X5_howManyCaught s y.2 := by
  unfold f_X5_howManyCaught at h
  have t := hq_fc_rf w_X5_howManyCaught s
  exact hq_fc_tr t (f_X5_howManyCaught_L4_fw m0_ h)
def w_X5_lootOfAll : List (Nat × Option Nat) := []
theorem f_X5_lootOfAll_L4_B_fw {n : Nat} {k0 : Nat} {a1 : Int32} {a2 : Int32} {a3 : Int32} {q4 : Nat → Int32 → Int32 → Int32 → hq_S → Option (Int32 × hq_S)} {s : hq_S} {y : (Int32 × hq_S)} (e4 : ∀ (k0 : Nat) (a1 : Int32) (a2 : Int32) (a3 : Int32) (s : hq_S) (m0_ : hq_isN k0), q4 k0 a1 a2 a3 s = some y → hq_fc w_X5_lootOfAll s y.2) (m0_ : hq_isN k0) (h : f_X5_lootOfAll_L4_B n q4 k0 a1 a2 a3 s = some y) : hq_fc w_X5_lootOfAll s y.2 := by
  unfold f_X5_lootOfAll_L4_B at h
  have t := hq_fc_rf w_X5_lootOfAll s
  by_cases c1 : a3 < a1
  · rw [if_pos c1] at h
    obtain ⟨x2, hx2, h⟩ := hq_bind h
    exact hq_fc_tr t (e4 k0 a1 (a2 + x2) (a3 + (1 : Int32)) s m0_ h)
  · rw [if_neg c1] at h
    have h := Option.some.inj h
    subst h
    exact t
theorem f_X5_lootOfAll_L4_fw {n m : Nat} {k0 : Nat} {a1 : Int32} {a2 : Int32} {a3 : Int32} {s : hq_S} {y : (Int32 × hq_S)} (m0_ : hq_isN k0) (h : f_X5_lootOfAll_L4 n m k0 a1 a2 a3 s = some y) : hq_fc w_X5_lootOfAll s y.2 := by
  induction m generalizing k0 a1 a2 a3 s with
  | zero => cases h
  | succ m ih => exact f_X5_lootOfAll_L4_B_fw (n := n) (k0 := k0) (a1 := a1) (a2 := a2) (a3 := a3) (q4 := f_X5_lootOfAll_L4 n m) (fun k0 a1 a2 a3 s m0_ h => ih m0_ h) m0_ h
theorem f_X5_lootOfAll_fw {n : Nat} {k0 : Nat} {a1 : Int32} {s : hq_S} {y : (Int32 × hq_S)} (m0_ : hq_isN k0) (h : f_X5_lootOfAll n k0 a1 s = some y) : hq_fc w_X5_lootOfAll s y.2 := by
  unfold f_X5_lootOfAll at h
  have t := hq_fc_rf w_X5_lootOfAll s
  exact hq_fc_tr t (f_X5_lootOfAll_L4_fw m0_ h)
def w_X5_hadByAll : List (Nat × Option Nat) := []
theorem f_X5_hadByAll_L4_B_fw {n : Nat} {k0 : Nat} {a1 : Int32} {a2 : Int32} {a3 : Int32} {q4 : Nat → Int32 → Int32 → Int32 → hq_S → Option (Int32 × hq_S)} {s : hq_S} {y : (Int32 × hq_S)} (e4 : ∀ (k0 : Nat) (a1 : Int32) (a2 : Int32) (a3 : Int32) (s : hq_S) (m0_ : hq_isN k0), q4 k0 a1 a2 a3 s = some y → hq_fc w_X5_hadByAll s y.2) (m0_ : hq_isN k0) (h : f_X5_hadByAll_L4_B n q4 k0 a1 a2 a3 s = some y) : hq_fc w_X5_hadByAll s y.2 := by
  unfold f_X5_hadByAll_L4_B at h
  have t := hq_fc_rf w_X5_hadByAll s
  by_cases c1 : a3 < a1
  · rw [if_pos c1] at h
    obtain ⟨x2, hx2, h⟩ := hq_bind h
    exact hq_fc_tr t (e4 k0 a1 (a2 + x2) (a3 + (1 : Int32)) s m0_ h)
  · rw [if_neg c1] at h
    have h := Option.some.inj h
    subst h
    exact t
theorem f_X5_hadByAll_L4_fw {n m : Nat} {k0 : Nat} {a1 : Int32} {a2 : Int32} {a3 : Int32} {s : hq_S} {y : (Int32 × hq_S)} (m0_ : hq_isN k0) (h : f_X5_hadByAll_L4 n m k0 a1 a2 a3 s = some y) : hq_fc w_X5_hadByAll s y.2 := by
  induction m generalizing k0 a1 a2 a3 s with
  | zero => cases h
  | succ m ih => exact f_X5_hadByAll_L4_B_fw (n := n) (k0 := k0) (a1 := a1) (a2 := a2) (a3 := a3) (q4 := f_X5_hadByAll_L4 n m) (fun k0 a1 a2 a3 s m0_ h => ih m0_ h) m0_ h
theorem f_X5_hadByAll_fw {n : Nat} {k0 : Nat} {a1 : Int32} {s : hq_S} {y : (Int32 × hq_S)} (m0_ : hq_isN k0) (h : f_X5_hadByAll n k0 a1 s = some y) : hq_fc w_X5_hadByAll s y.2 := by
  unfold f_X5_hadByAll at h
  have t := hq_fc_rf w_X5_hadByAll s
  exact hq_fc_tr t (f_X5_hadByAll_L4_fw m0_ h)
def w_X9_takeWord : List (Nat × Option Nat) := [(49, some 3), (49, some 4), (49, some 5)]
theorem f_X9_takeWord_L124_B_fw {n : Nat} {a1 : Int32} {q124 : Int32 → hq_S → Option hq_S} {s : hq_S} {y : hq_S} (e124 : ∀ (a1 : Int32) (s : hq_S), q124 a1 s = some y → hq_fc w_X9_takeWord s y) (h : f_X9_takeWord_L124_B n q124 a1 s = some y) : hq_fc w_X9_takeWord s y := by
  unfold f_X9_takeWord_L124_B at h
  have t := hq_fc_rf w_X9_takeWord s
  by_cases c5 : a1 < (22 : Int32)
  · rw [if_pos c5] at h
    by_cases c6 : (hq_gi s 49 4) = (2 : Int32)
    · rw [if_pos c6] at h
      obtain ⟨x7, hx7, h⟩ := hq_bind h
      obtain ⟨z8, hz8, h⟩ := hq_bind h
      have t : hq_fc w_X9_takeWord s z8 := by
        clear h
        have h := hz8
        by_cases c9 : x7 = (hq_gi s 49 5)
        · rw [if_pos c9] at h
          obtain ⟨s10, hs10, h⟩ := hq_bind h
          have t := hq_fc_tr t (hq_fc_pi hs10 (by decide))
          obtain ⟨s11, hs11, h⟩ := hq_bind h
          have t := hq_fc_tr t (hq_fc_pi hs11 (by decide))
          cases h
          exact t
        · rw [if_neg c9] at h
          cases h
          exact t
      exact hq_fc_tr t (e124 (a1 + (1 : Int32)) z8 h)
    · rw [if_neg c6] at h
      have h := Option.some.inj h
      subst h
      exact t
  · rw [if_neg c5] at h
    have h := Option.some.inj h
    subst h
    exact t
theorem f_X9_takeWord_L124_fw {n m : Nat} {a1 : Int32} {s : hq_S} {y : hq_S} (h : f_X9_takeWord_L124 n m a1 s = some y) : hq_fc w_X9_takeWord s y := by
  induction m generalizing a1 s with
  | zero => cases h
  | succ m ih => exact f_X9_takeWord_L124_B_fw (n := n) (a1 := a1) (q124 := f_X9_takeWord_L124 n m) (fun a1 s h => ih h) h
theorem f_X9_takeWord_J99_fw {n : Nat} {s : hq_S} {y : hq_S} (h : f_X9_takeWord_J99 n s = some y) : hq_fc w_X9_takeWord s y := by
  unfold f_X9_takeWord_J99 at h
  have t := hq_fc_rf w_X9_takeWord s
  obtain ⟨z2, hz2, h⟩ := hq_bind h
  obtain ⟨s4, hs4, h⟩ := hq_bind h
  have t := hq_fc_tr t (hq_fc_pi hs4 (by decide))
  exact hq_fc_tr t (f_X9_takeWord_L124_fw h)
theorem f_X9_takeWord_L0_B_fw {n : Nat} {q0 : hq_S → Option hq_S} {s : hq_S} {y : hq_S} (e0 : ∀ (o1 : Option Value) (s : hq_S), q0 s = some y → hq_fc w_X9_takeWord s y) (h : f_X9_takeWord_L0_B n q0 s = some y) : hq_fc w_X9_takeWord s y := by
  unfold f_X9_takeWord_L0_B at h
  have t := hq_fc_rf w_X9_takeWord s
  by_cases c1 : (hq_gi s 49 3) < (hq_gi s 49 2)
  · rw [if_pos c1] at h
    obtain ⟨x12, hx12, h⟩ := hq_bind h
    by_cases c13 : x12 < (97 : Int32)
    · rw [if_pos c13] at h
      exact hq_fc_tr t (f_X9_takeWord_J99_fw h)
    · rw [if_neg c13] at h
      obtain ⟨x14, hx14, h⟩ := hq_bind h
      by_cases c15 : (122 : Int32) < x14
      · rw [if_pos c15] at h
        exact hq_fc_tr t (f_X9_takeWord_J99_fw h)
      · rw [if_neg c15] at h
        obtain ⟨z16, hz16, h⟩ := hq_bind h
        obtain ⟨s19, hs19, h⟩ := hq_bind h
        have t := hq_fc_tr t (hq_fc_pi hs19 (by decide))
        obtain ⟨s20, hs20, h⟩ := hq_bind h
        have t := hq_fc_tr t (hq_fc_pi hs20 (by decide))
        exact hq_fc_tr t (e0 none s20 h)
  · rw [if_neg c1] at h
    exact hq_fc_tr t (f_X9_takeWord_J99_fw h)
theorem f_X9_takeWord_L0_fw {n m : Nat} {s : hq_S} {y : hq_S} (h : f_X9_takeWord_L0 n m s = some y) : hq_fc w_X9_takeWord s y := by
  induction m generalizing s with
  | zero => cases h
  | succ m ih => exact f_X9_takeWord_L0_B_fw (n := n) (q0 := f_X9_takeWord_L0 n m) (fun _ s h => ih h) h
theorem f_X9_takeWord_fw {n : Nat} {s : hq_S} {y : hq_S} (h : f_X9_takeWord n s = some y) : hq_fc w_X9_takeWord s y := by
  unfold f_X9_takeWord at h
  have t := hq_fc_rf w_X9_takeWord s
  exact hq_fc_tr t (f_X9_takeWord_L0_fw h)
def w_X9_takeNumber : List (Nat × Option Nat) := [(49, some 3), (49, some 4), (49, some 5)]
theorem f_X9_takeNumber_L5_B_fw {n : Nat} {q5 : hq_S → Option hq_S} {s : hq_S} {y : hq_S} (e5 : ∀ (s : hq_S), q5 s = some y → hq_fc w_X9_takeNumber s y) (h : f_X9_takeNumber_L5_B n q5 s = some y) : hq_fc w_X9_takeNumber s y := by
  unfold f_X9_takeNumber_L5_B at h
  have t := hq_fc_rf w_X9_takeNumber s
  by_cases c2 : (hq_gi s 49 3) < (hq_gi s 49 2)
  · rw [if_pos c2] at h
    obtain ⟨x3, hx3, h⟩ := hq_bind h
    by_cases c4 : x3 < (48 : Int32)
    · rw [if_pos c4] at h
      have h := Option.some.inj h
      subst h
      exact t
    · rw [if_neg c4] at h
      obtain ⟨x5, hx5, h⟩ := hq_bind h
      by_cases c6 : (57 : Int32) < x5
      · rw [if_pos c6] at h
        have h := Option.some.inj h
        subst h
        exact t
      · rw [if_neg c6] at h
        obtain ⟨z7, hz7, h⟩ := hq_bind h
        obtain ⟨s10, hs10, h⟩ := hq_bind h
        have t := hq_fc_tr t (hq_fc_pi hs10 (by decide))
        obtain ⟨s11, hs11, h⟩ := hq_bind h
        have t := hq_fc_tr t (hq_fc_pi hs11 (by decide))
        exact hq_fc_tr t (e5 s11 h)
  · rw [if_neg c2] at h
    have h := Option.some.inj h
    subst h
    exact t
theorem f_X9_takeNumber_L5_fw {n m : Nat} {s : hq_S} {y : hq_S} (h : f_X9_takeNumber_L5 n m s = some y) : hq_fc w_X9_takeNumber s y := by
  induction m generalizing s with
  | zero => cases h
  | succ m ih => exact f_X9_takeNumber_L5_B_fw (n := n) (q5 := f_X9_takeNumber_L5 n m) (fun s h => ih h) h
theorem f_X9_takeNumber_fw {n : Nat} {s : hq_S} {y : hq_S} (h : f_X9_takeNumber n s = some y) : hq_fc w_X9_takeNumber s y := by
  unfold f_X9_takeNumber at h
  have t := hq_fc_rf w_X9_takeNumber s
  obtain ⟨s1, hs1, h⟩ := hq_bind h
  have t := hq_fc_tr t (hq_fc_pi hs1 (by decide))
  exact hq_fc_tr t (f_X9_takeNumber_L5_fw h)
def w_X9_isSign : List (Nat × Option Nat) := []
theorem f_X9_isSign_fw {n : Nat} {a0 : Int32} {s : hq_S} {y : (Int32 × hq_S)} (h : f_X9_isSign n a0 s = some y) : hq_fc w_X9_isSign s y.2 := by
  unfold f_X9_isSign at h
  have t := hq_fc_rf w_X9_isSign s
  by_cases c1 : a0 = (40 : Int32)
  · rw [if_pos c1] at h
    have h := Option.some.inj h
    subst h
    exact t
  rw [if_neg c1] at h
  by_cases c2 : a0 = (41 : Int32)
  · rw [if_pos c2] at h
    have h := Option.some.inj h
    subst h
    exact t
  rw [if_neg c2] at h
  by_cases c3 : a0 = (42 : Int32)
  · rw [if_pos c3] at h
    have h := Option.some.inj h
    subst h
    exact t
  rw [if_neg c3] at h
  by_cases c4 : a0 = (43 : Int32)
  · rw [if_pos c4] at h
    have h := Option.some.inj h
    subst h
    exact t
  rw [if_neg c4] at h
  by_cases c5 : a0 = (44 : Int32)
  · rw [if_pos c5] at h
    have h := Option.some.inj h
    subst h
    exact t
  rw [if_neg c5] at h
  by_cases c6 : a0 = (45 : Int32)
  · rw [if_pos c6] at h
    have h := Option.some.inj h
    subst h
    exact t
  rw [if_neg c6] at h
  by_cases c7 : a0 = (46 : Int32)
  · rw [if_pos c7] at h
    have h := Option.some.inj h
    subst h
    exact t
  rw [if_neg c7] at h
  by_cases c8 : a0 = (47 : Int32)
  · rw [if_pos c8] at h
    have h := Option.some.inj h
    subst h
    exact t
  rw [if_neg c8] at h
  by_cases c9 : a0 = (48 : Int32)
  · rw [if_pos c9] at h
    have h := Option.some.inj h
    subst h
    exact t
  rw [if_neg c9] at h
  by_cases c10 : a0 = (49 : Int32)
  · rw [if_pos c10] at h
    have h := Option.some.inj h
    subst h
    exact t
  rw [if_neg c10] at h
  by_cases c11 : a0 = (50 : Int32)
  · rw [if_pos c11] at h
    have h := Option.some.inj h
    subst h
    exact t
  rw [if_neg c11] at h
  by_cases c12 : a0 = (51 : Int32)
  · rw [if_pos c12] at h
    have h := Option.some.inj h
    subst h
    exact t
  rw [if_neg c12] at h
  by_cases c13 : a0 = (52 : Int32)
  · rw [if_pos c13] at h
    have h := Option.some.inj h
    subst h
    exact t
  rw [if_neg c13] at h
  by_cases c14 : a0 = (53 : Int32)
  · rw [if_pos c14] at h
    have h := Option.some.inj h
    subst h
    exact t
  rw [if_neg c14] at h
  by_cases c15 : a0 = (54 : Int32)
  · rw [if_pos c15] at h
    have h := Option.some.inj h
    subst h
    exact t
  rw [if_neg c15] at h
  by_cases c16 : a0 = (55 : Int32)
  · rw [if_pos c16] at h
    have h := Option.some.inj h
    subst h
    exact t
  rw [if_neg c16] at h
  by_cases c17 : a0 = (56 : Int32)
  · rw [if_pos c17] at h
    have h := Option.some.inj h
    subst h
    exact t
  rw [if_neg c17] at h
  by_cases c18 : a0 = (57 : Int32)
  · rw [if_pos c18] at h
    have h := Option.some.inj h
    subst h
    exact t
  rw [if_neg c18] at h
  by_cases c19 : a0 = (58 : Int32)
  · rw [if_pos c19] at h
    have h := Option.some.inj h
    subst h
    exact t
  rw [if_neg c19] at h
  by_cases c20 : a0 = (59 : Int32)
  · rw [if_pos c20] at h
    have h := Option.some.inj h
    subst h
    exact t
  rw [if_neg c20] at h
  by_cases c21 : a0 = (60 : Int32)
  · rw [if_pos c21] at h
    have h := Option.some.inj h
    subst h
    exact t
  rw [if_neg c21] at h
  by_cases c22 : a0 = (61 : Int32)
  · rw [if_pos c22] at h
    have h := Option.some.inj h
    subst h
    exact t
  rw [if_neg c22] at h
  by_cases c23 : a0 = (62 : Int32)
  · rw [if_pos c23] at h
    have h := Option.some.inj h
    subst h
    exact t
  rw [if_neg c23] at h
  have h := Option.some.inj h
  subst h
  exact t
def w_X9_takeSign : List (Nat × Option Nat) := [(49, some 3), (49, some 5)]
theorem f_X9_takeSign_J104_fw {n : Nat} {a1 : Int32} {a2 : Int32} {s : hq_S} {y : hq_S} (h : f_X9_takeSign_J104 n a1 a2 s = some y) : hq_fc w_X9_takeSign s y := by
  unfold f_X9_takeSign_J104 at h
  have t := hq_fc_rf w_X9_takeSign s
  by_cases c8 : a1 = (62 : Int32)
  · rw [if_pos c8] at h
    by_cases c9 : a2 = (61 : Int32)
    · rw [if_pos c9] at h
      obtain ⟨s10, hs10, h⟩ := hq_bind h
      have t := hq_fc_tr t (hq_fc_pi hs10 (by decide))
      obtain ⟨s11, hs11, h⟩ := hq_bind h
      have t := hq_fc_tr t (hq_fc_pi hs11 (by decide))
      have h := Option.some.inj h
      subst h
      exact t
    · rw [if_neg c9] at h
      have h := Option.some.inj h
      subst h
      exact t
  · rw [if_neg c8] at h
    have h := Option.some.inj h
    subst h
    exact t
theorem f_X9_takeSign_J72_fw {n : Nat} {a1 : Int32} {a2 : Int32} {s : hq_S} {y : hq_S} (h : f_X9_takeSign_J72 n a1 a2 s = some y) : hq_fc w_X9_takeSign s y := by
  unfold f_X9_takeSign_J72 at h
  have t := hq_fc_rf w_X9_takeSign s
  by_cases c7 : a1 = (60 : Int32)
  · rw [if_pos c7] at h
    by_cases c12 : a2 = (62 : Int32)
    · rw [if_pos c12] at h
      obtain ⟨s13, hs13, h⟩ := hq_bind h
      have t := hq_fc_tr t (hq_fc_pi hs13 (by decide))
      obtain ⟨s14, hs14, h⟩ := hq_bind h
      have t := hq_fc_tr t (hq_fc_pi hs14 (by decide))
      have h := Option.some.inj h
      subst h
      exact t
    · rw [if_neg c12] at h
      exact hq_fc_tr t (f_X9_takeSign_J104_fw h)
  · rw [if_neg c7] at h
    exact hq_fc_tr t (f_X9_takeSign_J104_fw h)
theorem f_X9_takeSign_fw {n : Nat} {a1 : Int32} {s : hq_S} {y : hq_S} (h : f_X9_takeSign n a1 s = some y) : hq_fc w_X9_takeSign s y := by
  unfold f_X9_takeSign at h
  have t := hq_fc_rf w_X9_takeSign s
  obtain ⟨s1, hs1, h⟩ := hq_bind h
  have t := hq_fc_tr t (hq_fc_pi hs1 (by decide))
  obtain ⟨s2, hs2, h⟩ := hq_bind h
  have t := hq_fc_tr t (hq_fc_pi hs2 (by decide))
  obtain ⟨z3, hz3, h⟩ := hq_bind h
  by_cases c6 : a1 = (60 : Int32)
  · rw [if_pos c6] at h
    by_cases c15 : z3 = (61 : Int32)
    · rw [if_pos c15] at h
      obtain ⟨s16, hs16, h⟩ := hq_bind h
      have t := hq_fc_tr t (hq_fc_pi hs16 (by decide))
      obtain ⟨s17, hs17, h⟩ := hq_bind h
      have t := hq_fc_tr t (hq_fc_pi hs17 (by decide))
      have h := Option.some.inj h
      subst h
      exact t
    · rw [if_neg c15] at h
      exact hq_fc_tr t (f_X9_takeSign_J72_fw h)
  · rw [if_neg c6] at h
    exact hq_fc_tr t (f_X9_takeSign_J72_fw h)
def w_X9_advance : List (Nat × Option Nat) := [(49, some 3), (49, some 4), (49, some 5), (49, some 6)]
theorem f_X9_advance_J147_fw {n : Nat} {a1 : Int32} {s : hq_S} {y : hq_S} (h : f_X9_advance_J147 n a1 s = some y) : hq_fc w_X9_advance s y := by
  unfold f_X9_advance_J147 at h
  have t := hq_fc_rf w_X9_advance s
  obtain ⟨y10, hy10, h⟩ := hq_bind h
  have t := hq_fc_tr t (hq_fc_mono (by decide) (f_X9_isSign_fw hy10))
  obtain ⟨z11, hz11, h⟩ := hq_bind h
  obtain ⟨s13, hs13, h⟩ := hq_bind h
  have t := hq_fc_tr t (hq_fc_pi hs13 (by decide))
  obtain ⟨s14, hs14, h⟩ := hq_bind h
  have t := hq_fc_tr t (hq_fc_mono (by decide) (f_X9_takeSign_fw hs14))
  have h := Option.some.inj h
  subst h
  exact t
theorem f_X9_advance_J128_fw {n : Nat} {a1 : Int32} {s : hq_S} {y : hq_S} (h : f_X9_advance_J128 n a1 s = some y) : hq_fc w_X9_advance s y := by
  unfold f_X9_advance_J128 at h
  have t := hq_fc_rf w_X9_advance s
  by_cases c9 : a1 < (48 : Int32)
  · rw [if_pos c9] at h
    exact hq_fc_tr t (f_X9_advance_J147_fw h)
  · rw [if_neg c9] at h
    by_cases c15 : (57 : Int32) < a1
    · rw [if_pos c15] at h
      exact hq_fc_tr t (f_X9_advance_J147_fw h)
    · rw [if_neg c15] at h
      obtain ⟨s16, hs16, h⟩ := hq_bind h
      have t := hq_fc_tr t (hq_fc_mono (by decide) (f_X9_takeNumber_fw hs16))
      have h := Option.some.inj h
      subst h
      exact t
theorem f_X9_advance_J52_fw {n : Nat} {s : hq_S} {y : hq_S} (h : f_X9_advance_J52 n s = some y) : hq_fc w_X9_advance s y := by
  unfold f_X9_advance_J52 at h
  have t := hq_fc_rf w_X9_advance s
  obtain ⟨s2, hs2, h⟩ := hq_bind h
  have t := hq_fc_tr t (hq_fc_pi hs2 (by decide))
  obtain ⟨s3, hs3, h⟩ := hq_bind h
  have t := hq_fc_tr t (hq_fc_pi hs3 (by decide))
  obtain ⟨z4, hz4, h⟩ := hq_bind h
  by_cases c7 : (hq_gi s3 49 3) < (hq_gi s3 49 2)
  · rw [if_pos c7] at h
    by_cases c8 : z4 < (97 : Int32)
    · rw [if_pos c8] at h
      exact hq_fc_tr t (f_X9_advance_J128_fw h)
    · rw [if_neg c8] at h
      by_cases c17 : (122 : Int32) < z4
      · rw [if_pos c17] at h
        exact hq_fc_tr t (f_X9_advance_J128_fw h)
      · rw [if_neg c17] at h
        obtain ⟨s18, hs18, h⟩ := hq_bind h
        have t := hq_fc_tr t (hq_fc_mono (by decide) (f_X9_takeWord_fw hs18))
        have h := Option.some.inj h
        subst h
        exact t
  · rw [if_neg c7] at h
    obtain ⟨s19, hs19, h⟩ := hq_bind h
    have t := hq_fc_tr t (hq_fc_pi hs19 (by decide))
    have h := Option.some.inj h
    subst h
    exact t
theorem f_X9_advance_J39_fw {n : Nat} {q0 : hq_S → Option hq_S} {s : hq_S} {y : hq_S} (e0 : ∀ (s : hq_S), q0 s = some y → hq_fc w_X9_advance s y) (h : f_X9_advance_J39 n q0 s = some y) : hq_fc w_X9_advance s y := by
  unfold f_X9_advance_J39 at h
  have t := hq_fc_rf w_X9_advance s
  obtain ⟨s22, hs22, h⟩ := hq_bind h
  have t := hq_fc_tr t (hq_fc_pi hs22 (by decide))
  exact hq_fc_tr t (e0 s22 h)
theorem f_X9_advance_L0_B_fw {n : Nat} {q0 : hq_S → Option hq_S} {s : hq_S} {y : hq_S} (e0 : ∀ (s : hq_S), q0 s = some y → hq_fc w_X9_advance s y) (h : f_X9_advance_L0_B n q0 s = some y) : hq_fc w_X9_advance s y := by
  unfold f_X9_advance_L0_B at h
  have t := hq_fc_rf w_X9_advance s
  by_cases c1 : (hq_gi s 49 3) < (hq_gi s 49 2)
  · rw [if_pos c1] at h
    obtain ⟨x20, hx20, h⟩ := hq_bind h
    by_cases c21 : x20 = (32 : Int32)
    · rw [if_pos c21] at h
      exact hq_fc_tr t (f_X9_advance_J39_fw e0 h)
    · rw [if_neg c21] at h
      obtain ⟨x23, hx23, h⟩ := hq_bind h
      by_cases c24 : x23 = (10 : Int32)
      · rw [if_pos c24] at h
        exact hq_fc_tr t (f_X9_advance_J39_fw e0 h)
      · rw [if_neg c24] at h
        exact hq_fc_tr t (f_X9_advance_J52_fw h)
  · rw [if_neg c1] at h
    exact hq_fc_tr t (f_X9_advance_J52_fw h)
theorem f_X9_advance_L0_fw {n m : Nat} {s : hq_S} {y : hq_S} (h : f_X9_advance_L0 n m s = some y) : hq_fc w_X9_advance s y := by
  induction m generalizing s with
  | zero => cases h
  | succ m ih => exact f_X9_advance_L0_B_fw (n := n) (q0 := f_X9_advance_L0 n m) (fun s h => ih h) h
theorem f_X9_advance_fw {n : Nat} {s : hq_S} {y : hq_S} (h : f_X9_advance n s = some y) : hq_fc w_X9_advance s y := by
  unfold f_X9_advance at h
  have t := hq_fc_rf w_X9_advance s
  exact hq_fc_tr t (f_X9_advance_L0_fw h)
def w_X9_start : List (Nat × Option Nat) := [(49, some 1), (49, some 2), (49, some 3), (49, some 4), (49, some 5), (49, some 6)]
theorem f_X9_start_fw {n : Nat} {k1 : Nat} {a2 : Int32} {s : hq_S} {y : hq_S} (h : f_X9_start n k1 a2 s = some y) : hq_fc w_X9_start s y := by
  unfold f_X9_start at h
  have t := hq_fc_rf w_X9_start s
  obtain ⟨s1, hs1, h⟩ := hq_bind h
  have t := hq_fc_tr t (hq_fc_pr hs1 (by decide))
  obtain ⟨x2, hx2, h⟩ := hq_bind h
  obtain ⟨s3, hs3, h⟩ := hq_bind h
  have t := hq_fc_tr t (hq_fc_pi hs3 (by decide))
  obtain ⟨s4, hs4, h⟩ := hq_bind h
  have t := hq_fc_tr t (hq_fc_pi hs4 (by decide))
  obtain ⟨s5, hs5, h⟩ := hq_bind h
  have t := hq_fc_tr t (hq_fc_mono (by decide) (f_X9_advance_fw hs5))
  have h := Option.some.inj h
  subst h
  exact t
def w_X6_failed : List (Nat × Option Nat) := [(48, some 7), (48, some 8)]
theorem f_X6_failed_fw {n : Nat} {a1 : Int32} {s : hq_S} {y : (Int32 × hq_S)} (h : f_X6_failed n a1 s = some y) : hq_fc w_X6_failed s y.2 := by
  unfold f_X6_failed at h
  have t := hq_fc_rf w_X6_failed s
  obtain ⟨s1, hs1, h⟩ := hq_bind h
  have t := hq_fc_tr t (hq_fc_pi hs1 (by decide))
  obtain ⟨s2, hs2, h⟩ := hq_bind h
  have t := hq_fc_tr t (hq_fc_pi hs2 (by decide))
  have h := Option.some.inj h
  subst h
  exact t
def w_X6_passLineWord : List (Nat × Option Nat) := [(48, some 7), (48, some 8), (49, some 3), (49, some 4), (49, some 5), (49, some 6)]
theorem f_X6_passLineWord_fw {n : Nat} {a1 : Int32} {a2 : Int32} {s : hq_S} {y : (Int32 × hq_S)} (h : f_X6_passLineWord n a1 a2 s = some y) : hq_fc w_X6_passLineWord s y.2 := by
  unfold f_X6_passLineWord at h
  have t := hq_fc_rf w_X6_passLineWord s
  by_cases c1 : a1 < a2
  · rw [if_pos c1] at h
    obtain ⟨s2, hs2, h⟩ := hq_bind h
    have t := hq_fc_tr t (hq_fc_mono (by decide) (f_X9_advance_fw hs2))
    have h := Option.some.inj h
    subst h
    exact t
  · rw [if_neg c1] at h
    obtain ⟨y3, hy3, h⟩ := hq_bind h
    have t := hq_fc_tr t (hq_fc_mono (by decide) (f_X6_failed_fw hy3))
    have hr : mm_rfit (mm_ret mc_X6_passLineWord) y3.1 = true := hq_ifT h
    rw [if_pos hr] at h
    have h := Option.some.inj h
    subst h
    exact t
def w_X10_placeOf : List (Nat × Option Nat) := []
theorem f_X10_placeOf_L2_B_fw {n : Nat} {a0 : Int32} {k1 : Nat} {a2 : Int32} {a3 : Int32} {q2 : Int32 → Nat → Int32 → Int32 → hq_S → Option (Int32 × hq_S)} {s : hq_S} {y : (Int32 × hq_S)} (e2 : ∀ (a0 : Int32) (k1 : Nat) (a2 : Int32) (a3 : Int32) (s : hq_S), q2 a0 k1 a2 a3 s = some y → hq_fc w_X10_placeOf s y.2) (h : f_X10_placeOf_L2_B n q2 a0 k1 a2 a3 s = some y) : hq_fc w_X10_placeOf s y.2 := by
  unfold f_X10_placeOf_L2_B at h
  have t := hq_fc_rf w_X10_placeOf s
  by_cases c1 : a3 < a2
  · rw [if_pos c1] at h
    obtain ⟨x2, hx2, h⟩ := hq_bind h
    by_cases c3 : a3 < x2
    · rw [if_pos c3] at h
      obtain ⟨x4, hx4, h⟩ := hq_bind h
      by_cases c5 : x4 = a0
      · rw [if_pos c5] at h
        have h := Option.some.inj h
        subst h
        exact t
      · rw [if_neg c5] at h
        exact hq_fc_tr t (e2 a0 k1 a2 (a3 + (1 : Int32)) s h)
    · rw [if_neg c3] at h
      have h := Option.some.inj h
      subst h
      exact t
  · rw [if_neg c1] at h
    have h := Option.some.inj h
    subst h
    exact t
theorem f_X10_placeOf_L2_fw {n m : Nat} {a0 : Int32} {k1 : Nat} {a2 : Int32} {a3 : Int32} {s : hq_S} {y : (Int32 × hq_S)} (h : f_X10_placeOf_L2 n m a0 k1 a2 a3 s = some y) : hq_fc w_X10_placeOf s y.2 := by
  induction m generalizing a0 k1 a2 a3 s with
  | zero => cases h
  | succ m ih => exact f_X10_placeOf_L2_B_fw (n := n) (a0 := a0) (k1 := k1) (a2 := a2) (a3 := a3) (q2 := f_X10_placeOf_L2 n m) (fun a0 k1 a2 a3 s h => ih h) h
theorem f_X10_placeOf_fw {n : Nat} {a0 : Int32} {k1 : Nat} {a2 : Int32} {s : hq_S} {y : (Int32 × hq_S)} (h : f_X10_placeOf n a0 k1 a2 s = some y) : hq_fc w_X10_placeOf s y.2 := by
  unfold f_X10_placeOf at h
  have t := hq_fc_rf w_X10_placeOf s
  exact hq_fc_tr t (f_X10_placeOf_L2_fw h)
def w_X6_newName : List (Nat × Option Nat) := [(48, some 7), (48, some 8), (49, some 3), (49, some 4), (49, some 5), (49, some 6)]
theorem f_X6_newName_fw {n : Nat} {k1 : Nat} {a2 : Int32} {s : hq_S} {y : (Int32 × hq_S)} (h : f_X6_newName n k1 a2 s = some y) : hq_fc w_X6_newName s y.2 := by
  unfold f_X6_newName at h
  have t := hq_fc_rf w_X6_newName s
  by_cases c1 : (hq_gi s 49 4) = (2 : Int32)
  · rw [if_pos c1] at h
    obtain ⟨y2, hy2, h⟩ := hq_bind h
    have t := hq_fc_tr t (hq_fc_mono (by decide) (f_X10_placeOf_fw hy2))
    by_cases c3 : y2.1 = (-1 : Int32)
    · rw [if_pos c3] at h
      obtain ⟨s4, hs4, h⟩ := hq_bind h
      have t := hq_fc_tr t (hq_fc_mono (by decide) (f_X9_advance_fw hs4))
      have h := Option.some.inj h
      subst h
      exact t
    · rw [if_neg c3] at h
      obtain ⟨y5, hy5, h⟩ := hq_bind h
      have t := hq_fc_tr t (hq_fc_mono (by decide) (f_X6_failed_fw hy5))
      have h := Option.some.inj h
      subst h
      exact t
  · rw [if_neg c1] at h
    obtain ⟨y6, hy6, h⟩ := hq_bind h
    have t := hq_fc_tr t (hq_fc_mono (by decide) (f_X6_failed_fw hy6))
    have h := Option.some.inj h
    subst h
    exact t
def w_X6_passNumber : List (Nat × Option Nat) := [(48, some 7), (48, some 8), (49, some 3), (49, some 4), (49, some 5), (49, some 6)]
theorem f_X6_passNumber_fw {n : Nat} {a1 : Int32} {s : hq_S} {y : (Int32 × hq_S)} (h : f_X6_passNumber n a1 s = some y) : hq_fc w_X6_passNumber s y.2 := by
  unfold f_X6_passNumber at h
  have t := hq_fc_rf w_X6_passNumber s
  by_cases c1 : (hq_gi s 49 4) = (4 : Int32)
  · rw [if_pos c1] at h
    by_cases c2 : a1 < (hq_gi s 49 5)
    · rw [if_pos c2] at h
      obtain ⟨y4, hy4, h⟩ := hq_bind h
      have t := hq_fc_tr t (hq_fc_mono (by decide) (f_X6_failed_fw hy4))
      have h := Option.some.inj h
      subst h
      exact t
    · rw [if_neg c2] at h
      obtain ⟨s3, hs3, h⟩ := hq_bind h
      have t := hq_fc_tr t (hq_fc_mono (by decide) (f_X9_advance_fw hs3))
      have h := Option.some.inj h
      subst h
      exact t
  · rw [if_neg c1] at h
    obtain ⟨y5, hy5, h⟩ := hq_bind h
    have t := hq_fc_tr t (hq_fc_mono (by decide) (f_X6_failed_fw hy5))
    have h := Option.some.inj h
    subst h
    exact t
def w_X6_toldOne : List (Nat × Option Nat) := [(48, some 7), (48, some 8)]
theorem f_X6_toldOne_fw {n : Nat} {k1 : Nat} {a2 : Int32} {s : hq_S} {y : (Int32 × hq_S)} (h : f_X6_toldOne n k1 a2 s = some y) : hq_fc w_X6_toldOne s y.2 := by
  unfold f_X6_toldOne at h
  have t := hq_fc_rf w_X6_toldOne s
  by_cases c1 : (hq_gi s 49 4) = (2 : Int32)
  · rw [if_pos c1] at h
    obtain ⟨y2, hy2, h⟩ := hq_bind h
    have t := hq_fc_tr t (hq_fc_mono (by decide) (f_X10_placeOf_fw hy2))
    by_cases c3 : y2.1 = (-1 : Int32)
    · rw [if_pos c3] at h
      obtain ⟨y4, hy4, h⟩ := hq_bind h
      have t := hq_fc_tr t (hq_fc_mono (by decide) (f_X6_failed_fw hy4))
      have h := Option.some.inj h
      subst h
      exact t
    · rw [if_neg c3] at h
      have h := Option.some.inj h
      subst h
      exact t
  · rw [if_neg c1] at h
    obtain ⟨y5, hy5, h⟩ := hq_bind h
    have t := hq_fc_tr t (hq_fc_mono (by decide) (f_X6_failed_fw hy5))
    have h := Option.some.inj h
    subst h
    exact t
def w_X6_passCorner : List (Nat × Option Nat) := [(48, some 7), (48, some 8), (49, some 3), (49, some 4), (49, some 5), (49, some 6)]
theorem f_X6_passCorner_fw {n : Nat} {s : hq_S} {y : (Int32 × hq_S)} (h : f_X6_passCorner n s = some y) : hq_fc w_X6_passCorner s y.2 := by
  unfold f_X6_passCorner at h
  have t := hq_fc_rf w_X6_passCorner s
  have m1 : hq_isT (hq_gr s 48 1) := hq_ifT h
  skip
  rw [if_pos m1] at h
  have m2 : hq_isT (hq_gr s 48 1) := hq_ifT h
  skip
  rw [if_pos m2] at h
  obtain ⟨y3, hy3, h⟩ := hq_bind h
  have t := hq_fc_tr t (hq_fc_mono (by decide) (f_X6_toldOne_fw hy3))
  by_cases c4 : y3.1 = (-1 : Int32)
  · rw [if_pos c4] at h
    have h := Option.some.inj h
    subst h
    exact t
  · rw [if_neg c4] at h
    obtain ⟨s5, hs5, h⟩ := hq_bind h
    have t := hq_fc_tr t (hq_fc_mono (by decide) (f_X9_advance_fw hs5))
    have h := Option.some.inj h
    subst h
    exact t
def w_X10_isOneWay : List (Nat × Option Nat) := []
theorem f_X10_isOneWay_fw {n : Nat} {k0 : Nat} {a1 : Int32} {s : hq_S} {y : (Int32 × hq_S)} (m0_ : hq_isT k0) (h : f_X10_isOneWay n k0 a1 s = some y) : hq_fc w_X10_isOneWay s y.2 := by
  unfold f_X10_isOneWay at h
  have t := hq_fc_rf w_X10_isOneWay s
  by_cases c1 : (((hq_gi s k0 6) >>> (a1 &&& 31)) &&& (1 : Int32)) = (1 : Int32)
  · rw [if_pos c1] at h
    have h := Option.some.inj h
    subst h
    exact t
  · rw [if_neg c1] at h
    have h := Option.some.inj h
    subst h
    exact t
def w_X10_hasLane : List (Nat × Option Nat) := []
theorem f_X10_hasLane_J91_fw {n : Nat} {k0 : Nat} {a1 : Int32} {a2 : Int32} {a3 : Int32} {a4 : Int32} {a5 : Int32} {q3 : Nat → Int32 → Int32 → Int32 → Int32 → hq_S → Option (Int32 × hq_S)} {s : hq_S} {y : (Int32 × hq_S)} (e3 : ∀ (k0 : Nat) (a1 : Int32) (a2 : Int32) (a3 : Int32) (a4 : Int32) (o5 : Option Value) (s : hq_S) (m0_ : hq_isT k0), q3 k0 a1 a2 a3 a4 s = some y → hq_fc w_X10_hasLane s y.2) (m0_ : hq_isT k0) (h : f_X10_hasLane_J91 n q3 k0 a1 a2 a3 a4 a5 s = some y) : hq_fc w_X10_hasLane s y.2 := by
  unfold f_X10_hasLane_J91 at h
  have t := hq_fc_rf w_X10_hasLane s
  exact hq_fc_tr t (e3 k0 a1 a2 a3 (a4 + (1 : Int32)) none s m0_ h)
theorem f_X10_hasLane_J58_fw {n : Nat} {k0 : Nat} {a1 : Int32} {a2 : Int32} {a3 : Int32} {a4 : Int32} {a5 : Int32} {q3 : Nat → Int32 → Int32 → Int32 → Int32 → hq_S → Option (Int32 × hq_S)} {s : hq_S} {y : (Int32 × hq_S)} (e3 : ∀ (k0 : Nat) (a1 : Int32) (a2 : Int32) (a3 : Int32) (a4 : Int32) (o5 : Option Value) (s : hq_S) (m0_ : hq_isT k0), q3 k0 a1 a2 a3 a4 s = some y → hq_fc w_X10_hasLane s y.2) (m0_ : hq_isT k0) (h : f_X10_hasLane_J58 n q3 k0 a1 a2 a3 a4 a5 s = some y) : hq_fc w_X10_hasLane s y.2 := by
  unfold f_X10_hasLane_J58 at h
  have t := hq_fc_rf w_X10_hasLane s
  by_cases c6 : a5 = 0
  · rw [if_pos c6] at h
    exact hq_fc_tr t (f_X10_hasLane_J91_fw e3 m0_ h)
  · rw [if_neg c6] at h
    by_cases c7 : a3 = 0
    · rw [if_pos c7] at h
      obtain ⟨x8, hx8, h⟩ := hq_bind h
      by_cases c9 : x8 = a2
      · rw [if_pos c9] at h
        obtain ⟨x10, hx10, h⟩ := hq_bind h
        by_cases c11 : x10 = a1
        · rw [if_pos c11] at h
          have h := Option.some.inj h
          subst h
          exact t
        · rw [if_neg c11] at h
          exact hq_fc_tr t (f_X10_hasLane_J91_fw e3 m0_ h)
      · rw [if_neg c9] at h
        exact hq_fc_tr t (f_X10_hasLane_J91_fw e3 m0_ h)
    · rw [if_neg c7] at h
      exact hq_fc_tr t (f_X10_hasLane_J91_fw e3 m0_ h)
theorem f_X10_hasLane_L3_B_fw {n : Nat} {k0 : Nat} {a1 : Int32} {a2 : Int32} {a3 : Int32} {a4 : Int32} {q3 : Nat → Int32 → Int32 → Int32 → Int32 → hq_S → Option (Int32 × hq_S)} {s : hq_S} {y : (Int32 × hq_S)} (e3 : ∀ (k0 : Nat) (a1 : Int32) (a2 : Int32) (a3 : Int32) (a4 : Int32) (o5 : Option Value) (s : hq_S) (m0_ : hq_isT k0), q3 k0 a1 a2 a3 a4 s = some y → hq_fc w_X10_hasLane s y.2) (m0_ : hq_isT k0) (h : f_X10_hasLane_L3_B n q3 k0 a1 a2 a3 a4 s = some y) : hq_fc w_X10_hasLane s y.2 := by
  unfold f_X10_hasLane_L3_B at h
  have t := hq_fc_rf w_X10_hasLane s
  by_cases c1 : a4 < (hq_gi s k0 3)
  · rw [if_pos c1] at h
    obtain ⟨y2, hy2, h⟩ := hq_bind h
    have t := hq_fc_tr t (hq_fc_mono (by decide) (f_X10_isOneWay_fw m0_ hy2))
    obtain ⟨z3, hz3, h⟩ := hq_bind h
    by_cases c5 : z3 = 0
    · rw [if_pos c5] at h
      exact hq_fc_tr t (f_X10_hasLane_J58_fw e3 m0_ h)
    · rw [if_neg c5] at h
      obtain ⟨x12, hx12, h⟩ := hq_bind h
      by_cases c13 : x12 = a1
      · rw [if_pos c13] at h
        obtain ⟨x14, hx14, h⟩ := hq_bind h
        by_cases c15 : x14 = a2
        · rw [if_pos c15] at h
          have h := Option.some.inj h
          subst h
          exact t
        · rw [if_neg c15] at h
          exact hq_fc_tr t (f_X10_hasLane_J58_fw e3 m0_ h)
      · rw [if_neg c13] at h
        exact hq_fc_tr t (f_X10_hasLane_J58_fw e3 m0_ h)
  · rw [if_neg c1] at h
    have h := Option.some.inj h
    subst h
    exact t
theorem f_X10_hasLane_L3_fw {n m : Nat} {k0 : Nat} {a1 : Int32} {a2 : Int32} {a3 : Int32} {a4 : Int32} {s : hq_S} {y : (Int32 × hq_S)} (m0_ : hq_isT k0) (h : f_X10_hasLane_L3 n m k0 a1 a2 a3 a4 s = some y) : hq_fc w_X10_hasLane s y.2 := by
  induction m generalizing k0 a1 a2 a3 a4 s with
  | zero => cases h
  | succ m ih => exact f_X10_hasLane_L3_B_fw (n := n) (k0 := k0) (a1 := a1) (a2 := a2) (a3 := a3) (a4 := a4) (q3 := f_X10_hasLane_L3 n m) (fun k0 a1 a2 a3 a4 _ s m0_ h => ih m0_ h) m0_ h
theorem f_X10_hasLane_fw {n : Nat} {k0 : Nat} {a1 : Int32} {a2 : Int32} {a3 : Int32} {s : hq_S} {y : (Int32 × hq_S)} (m0_ : hq_isT k0) (h : f_X10_hasLane n k0 a1 a2 a3 s = some y) : hq_fc w_X10_hasLane s y.2 := by
  unfold f_X10_hasLane at h
  have t := hq_fc_rf w_X10_hasLane s
  exact hq_fc_tr t (f_X10_hasLane_L3_fw m0_ h)
def w_X9_isThisSign : List (Nat × Option Nat) := []
theorem f_X9_isThisSign_fw {n : Nat} {a1 : Int32} {s : hq_S} {y : (Int32 × hq_S)} (h : f_X9_isThisSign n a1 s = some y) : hq_fc w_X9_isThisSign s y.2 := by
  unfold f_X9_isThisSign at h
  have t := hq_fc_rf w_X9_isThisSign s
  by_cases c1 : (hq_gi s 49 4) = (5 : Int32)
  · rw [if_pos c1] at h
    by_cases c2 : (hq_gi s 49 5) = a1
    · rw [if_pos c2] at h
      have h := Option.some.inj h
      subst h
      exact t
    · rw [if_neg c2] at h
      have h := Option.some.inj h
      subst h
      exact t
  · rw [if_neg c1] at h
    have h := Option.some.inj h
    subst h
    exact t
def w_X6_hang : List (Nat × Option Nat) := [(48, some 3), (75, none)]
theorem f_X6_hang_fw {n : Nat} {a1 : Int32} {s : hq_S} {y : hq_S} (h : f_X6_hang n a1 s = some y) : hq_fc w_X6_hang s y := by
  unfold f_X6_hang at h
  have t := hq_fc_rf w_X6_hang s
  by_cases c1 : (hq_gi s 48 3) < (72 : Int32)
  · rw [if_pos c1] at h
    obtain ⟨s2, hs2, h⟩ := hq_bind h
    have t := hq_fc_tr t (hq_fc_st hs2 (by decide))
    obtain ⟨s3, hs3, h⟩ := hq_bind h
    have t := hq_fc_tr t (hq_fc_pi hs3 (by decide))
    have h := Option.some.inj h
    subst h
    exact t
  · rw [if_neg c1] at h
    have h := Option.some.inj h
    subst h
    exact t
def w_X9_isKey : List (Nat × Option Nat) := []
theorem f_X9_isKey_fw {n : Nat} {a1 : Int32} {s : hq_S} {y : (Int32 × hq_S)} (h : f_X9_isKey n a1 s = some y) : hq_fc w_X9_isKey s y.2 := by
  unfold f_X9_isKey at h
  have t := hq_fc_rf w_X9_isKey s
  by_cases c1 : (hq_gi s 49 4) = (3 : Int32)
  · rw [if_pos c1] at h
    by_cases c2 : (hq_gi s 49 5) = a1
    · rw [if_pos c2] at h
      have h := Option.some.inj h
      subst h
      exact t
    · rw [if_neg c2] at h
      have h := Option.some.inj h
      subst h
      exact t
  · rw [if_neg c1] at h
    have h := Option.some.inj h
    subst h
    exact t
def w_X9_isName : List (Nat × Option Nat) := []
theorem f_X9_isName_fw {n : Nat} {s : hq_S} {y : (Int32 × hq_S)} (h : f_X9_isName n s = some y) : hq_fc w_X9_isName s y.2 := by
  unfold f_X9_isName at h
  have t := hq_fc_rf w_X9_isName s
  by_cases c1 : (hq_gi s 49 4) = (3 : Int32)
  · rw [if_pos c1] at h
    by_cases c2 : (hq_gi s 49 5) < (12 : Int32)
    · rw [if_pos c2] at h
      have h := Option.some.inj h
      subst h
      exact t
    · rw [if_neg c2] at h
      by_cases c3 : (hq_gi s 49 5) < (19 : Int32)
      · rw [if_pos c3] at h
        have h := Option.some.inj h
        subst h
        exact t
      · rw [if_neg c3] at h
        have h := Option.some.inj h
        subst h
        exact t
  · rw [if_neg c1] at h
    have h := Option.some.inj h
    subst h
    exact t
def w_X6_levelOf : List (Nat × Option Nat) := []
theorem f_X6_levelOf_fw {n : Nat} {a0 : Int32} {s : hq_S} {y : (Int32 × hq_S)} (h : f_X6_levelOf n a0 s = some y) : hq_fc w_X6_levelOf s y.2 := by
  unfold f_X6_levelOf at h
  have t := hq_fc_rf w_X6_levelOf s
  by_cases c1 : a0 = (19 : Int32)
  · rw [if_pos c1] at h
    have h := Option.some.inj h
    subst h
    exact t
  rw [if_neg c1] at h
  by_cases c2 : a0 = (20 : Int32)
  · rw [if_pos c2] at h
    have h := Option.some.inj h
    subst h
    exact t
  rw [if_neg c2] at h
  by_cases c3 : a0 = (21 : Int32)
  · rw [if_pos c3] at h
    have h := Option.some.inj h
    subst h
    exact t
  rw [if_neg c3] at h
  by_cases c4 : a0 = (42 : Int32)
  · rw [if_pos c4] at h
    have h := Option.some.inj h
    subst h
    exact t
  rw [if_neg c4] at h
  by_cases c5 : a0 = (43 : Int32)
  · rw [if_pos c5] at h
    have h := Option.some.inj h
    subst h
    exact t
  rw [if_neg c5] at h
  by_cases c6 : a0 = (45 : Int32)
  · rw [if_pos c6] at h
    have h := Option.some.inj h
    subst h
    exact t
  rw [if_neg c6] at h
  by_cases c7 : a0 = (47 : Int32)
  · rw [if_pos c7] at h
    have h := Option.some.inj h
    subst h
    exact t
  rw [if_neg c7] at h
  by_cases c8 : a0 = (60 : Int32)
  · rw [if_pos c8] at h
    have h := Option.some.inj h
    subst h
    exact t
  rw [if_neg c8] at h
  by_cases c9 : a0 = (61 : Int32)
  · rw [if_pos c9] at h
    have h := Option.some.inj h
    subst h
    exact t
  rw [if_neg c9] at h
  by_cases c10 : a0 = (62 : Int32)
  · rw [if_pos c10] at h
    have h := Option.some.inj h
    subst h
    exact t
  rw [if_neg c10] at h
  by_cases c11 : a0 = (256 : Int32)
  · rw [if_pos c11] at h
    have h := Option.some.inj h
    subst h
    exact t
  rw [if_neg c11] at h
  by_cases c12 : a0 = (257 : Int32)
  · rw [if_pos c12] at h
    have h := Option.some.inj h
    subst h
    exact t
  rw [if_neg c12] at h
  by_cases c13 : a0 = (258 : Int32)
  · rw [if_pos c13] at h
    have h := Option.some.inj h
    subst h
    exact t
  rw [if_neg c13] at h
  have h := Option.some.inj h
  subst h
  exact t
def w_X6_passSign : List (Nat × Option Nat) := [(48, some 7), (48, some 8), (49, some 3), (49, some 4), (49, some 5), (49, some 6)]
theorem f_X6_passSign_fw {n : Nat} {a1 : Int32} {s : hq_S} {y : (Int32 × hq_S)} (h : f_X6_passSign n a1 s = some y) : hq_fc w_X6_passSign s y.2 := by
  unfold f_X6_passSign at h
  have t := hq_fc_rf w_X6_passSign s
  obtain ⟨y1, hy1, h⟩ := hq_bind h
  have t := hq_fc_tr t (hq_fc_mono (by decide) (f_X9_isThisSign_fw hy1))
  by_cases c2 : y1.1 = 0
  · rw [if_pos c2] at h
    obtain ⟨y4, hy4, h⟩ := hq_bind h
    have t := hq_fc_tr t (hq_fc_mono (by decide) (f_X6_failed_fw hy4))
    have hr : mm_rfit (mm_ret mc_X6_passSign) y4.1 = true := hq_ifT h
    rw [if_pos hr] at h
    have h := Option.some.inj h
    subst h
    exact t
  · rw [if_neg c2] at h
    obtain ⟨s3, hs3, h⟩ := hq_bind h
    have t := hq_fc_tr t (hq_fc_mono (by decide) (f_X9_advance_fw hs3))
    have h := Option.some.inj h
    subst h
    exact t
def w_J6_bitCount_0f7a4 : List (Nat × Option Nat) := []
theorem f_J6_bitCount_0f7a4_fw {n : Nat} {a0 : Int32} {s : hq_S} {y : (Int32 × hq_S)} (h : f_J6_bitCount_0f7a4 n a0 s = some y) : hq_fc w_J6_bitCount_0f7a4 s y.2 := by
  unfold f_J6_bitCount_0f7a4 at h
  have t := hq_fc_rf w_J6_bitCount_0f7a4 s
  have h := Option.some.inj h
  subst h
  exact t
def w_X7_solveAround : List (Nat × Option Nat) := [(161, none)]
theorem f_X7_solveAround_L14_B_fw {n : Nat} {a1 : Int32} {a2 : Int32} {a3 : Int32} {a4 : Int32} {a5 : Int32} {a6 : Int32} {a7 : Int32} {q14 : Int32 → Int32 → Int32 → Int32 → Int32 → Int32 → Int32 → hq_S → Option (Int32 × hq_S)} {s : hq_S} {y : (Int32 × hq_S)} (e14 : ∀ (a1 : Int32) (a2 : Int32) (a3 : Int32) (a4 : Int32) (a5 : Int32) (a6 : Int32) (a7 : Int32) (s : hq_S), q14 a1 a2 a3 a4 a5 a6 a7 s = some y → hq_fc w_X7_solveAround s y.2) (h : f_X7_solveAround_L14_B n q14 a1 a2 a3 a4 a5 a6 a7 s = some y) : hq_fc w_X7_solveAround s y.2 := by
  unfold f_X7_solveAround_L14_B at h
  have t := hq_fc_rf w_X7_solveAround s
  by_cases c1 : a7 < 0
  · rw [if_pos c1] at h
    have hr : mm_rfit (mm_ret mc_X7_solveAround) a5 = true := hq_ifT h
    rw [if_pos hr] at h
    have h := Option.some.inj h
    subst h
    exact t
  · rw [if_neg c1] at h
    obtain ⟨x2, hx2, h⟩ := hq_bind h
    obtain ⟨z3, hz3, h⟩ := hq_bind h
    have t : hq_fc w_X7_solveAround s z3.2 := by
      clear h
      have h := hz3
      by_cases c4 : x2 = (-1 : Int32)
      · rw [if_pos c4] at h
        obtain ⟨y5, hy5, h⟩ := hq_bind h
        have t := hq_fc_tr t (hq_fc_mono (by decide) (f_J6_bitCount_0f7a4_fw hy5))
        by_cases c6 : a3 < y5.1
        · rw [if_pos c6] at h
          cases h
          exact t
        · rw [if_neg c6] at h
          obtain ⟨s7, hs7, h⟩ := hq_bind h
          have t := hq_fc_tr t (hq_fc_st hs7 (by decide))
          cases h
          exact t
      · rw [if_neg c4] at h
        cases h
        exact t
    obtain ⟨z8, hz8, h⟩ := hq_bind h
    exact hq_fc_tr t (e14 a1 a2 a3 a4 z3.1 a6 z8 z3.2 h)
theorem f_X7_solveAround_L14_fw {n m : Nat} {a1 : Int32} {a2 : Int32} {a3 : Int32} {a4 : Int32} {a5 : Int32} {a6 : Int32} {a7 : Int32} {s : hq_S} {y : (Int32 × hq_S)} (h : f_X7_solveAround_L14 n m a1 a2 a3 a4 a5 a6 a7 s = some y) : hq_fc w_X7_solveAround s y.2 := by
  induction m generalizing a1 a2 a3 a4 a5 a6 a7 s with
  | zero => cases h
  | succ m ih => exact f_X7_solveAround_L14_B_fw (n := n) (a1 := a1) (a2 := a2) (a3 := a3) (a4 := a4) (a5 := a5) (a6 := a6) (a7 := a7) (q14 := f_X7_solveAround_L14 n m) (fun a1 a2 a3 a4 a5 a6 a7 s h => ih h) h
theorem f_X7_solveAround_fw {n : Nat} {a1 : Int32} {a2 : Int32} {a3 : Int32} {a4 : Int32} {s : hq_S} {y : (Int32 × hq_S)} (h : f_X7_solveAround n a1 a2 a3 a4 s = some y) : hq_fc w_X7_solveAround s y.2 := by
  unfold f_X7_solveAround at h
  have t := hq_fc_rf w_X7_solveAround s
  exact hq_fc_tr t (f_X7_solveAround_L14_fw h)
def w_X8_nextToAny : List (Nat × Option Nat) := []
theorem f_X8_nextToAny_L4_B_fw {n : Nat} {k0 : Nat} {a1 : Int32} {a2 : Int32} {a3 : Int32} {q4 : Nat → Int32 → Int32 → Int32 → hq_S → Option (Int32 × hq_S)} {s : hq_S} {y : (Int32 × hq_S)} (e4 : ∀ (k0 : Nat) (a1 : Int32) (a2 : Int32) (a3 : Int32) (s : hq_S) (m0_ : hq_isS k0), q4 k0 a1 a2 a3 s = some y → hq_fc w_X8_nextToAny s y.2) (m0_ : hq_isS k0) (h : f_X8_nextToAny_L4_B n q4 k0 a1 a2 a3 s = some y) : hq_fc w_X8_nextToAny s y.2 := by
  unfold f_X8_nextToAny_L4_B at h
  have t := hq_fc_rf w_X8_nextToAny s
  by_cases c1 : a3 < (hq_gi s k0 0)
  · rw [if_pos c1] at h
    obtain ⟨z2, hz2, h⟩ := hq_bind h
    exact hq_fc_tr t (e4 k0 a1 (a2 ||| z2) (a3 + (1 : Int32)) s m0_ h)
  · rw [if_neg c1] at h
    have h := Option.some.inj h
    subst h
    exact t
theorem f_X8_nextToAny_L4_fw {n m : Nat} {k0 : Nat} {a1 : Int32} {a2 : Int32} {a3 : Int32} {s : hq_S} {y : (Int32 × hq_S)} (m0_ : hq_isS k0) (h : f_X8_nextToAny_L4 n m k0 a1 a2 a3 s = some y) : hq_fc w_X8_nextToAny s y.2 := by
  induction m generalizing k0 a1 a2 a3 s with
  | zero => cases h
  | succ m ih => exact f_X8_nextToAny_L4_B_fw (n := n) (k0 := k0) (a1 := a1) (a2 := a2) (a3 := a3) (q4 := f_X8_nextToAny_L4 n m) (fun k0 a1 a2 a3 s m0_ h => ih m0_ h) m0_ h
theorem f_X8_nextToAny_fw {n : Nat} {k0 : Nat} {a1 : Int32} {s : hq_S} {y : (Int32 × hq_S)} (m0_ : hq_isS k0) (h : f_X8_nextToAny n k0 a1 s = some y) : hq_fc w_X8_nextToAny s y.2 := by
  unfold f_X8_nextToAny at h
  have t := hq_fc_rf w_X8_nextToAny s
  exact hq_fc_tr t (f_X8_nextToAny_L4_fw m0_ h)
def w_X8_reached : List (Nat × Option Nat) := []
theorem f_X8_reached_L4_B_fw {n : Nat} {k0 : Nat} {a1 : Int32} {a2 : Int32} {a3 : Int32} {q4 : Nat → Int32 → Int32 → Int32 → hq_S → Option (Int32 × hq_S)} {s : hq_S} {y : (Int32 × hq_S)} (e4 : ∀ (k0 : Nat) (a1 : Int32) (a2 : Int32) (a3 : Int32) (s : hq_S) (m0_ : hq_isS k0), q4 k0 a1 a2 a3 s = some y → hq_fc w_X8_reached s y.2) (m0_ : hq_isS k0) (h : f_X8_reached_L4_B n q4 k0 a1 a2 a3 s = some y) : hq_fc w_X8_reached s y.2 := by
  unfold f_X8_reached_L4_B at h
  have t := hq_fc_rf w_X8_reached s
  by_cases c1 : a3 < (hq_gi s k0 0)
  · rw [if_pos c1] at h
    obtain ⟨y2, hy2, h⟩ := hq_bind h
    have t := hq_fc_tr t (hq_fc_mono (by decide) (f_X8_lanesBetween_fw m0_ hy2))
    obtain ⟨z3, hz3, h⟩ := hq_bind h
    exact hq_fc_tr t (e4 k0 a1 (a2 ||| z3) (a3 + (1 : Int32)) y2.2 m0_ h)
  · rw [if_neg c1] at h
    have h := Option.some.inj h
    subst h
    exact t
theorem f_X8_reached_L4_fw {n m : Nat} {k0 : Nat} {a1 : Int32} {a2 : Int32} {a3 : Int32} {s : hq_S} {y : (Int32 × hq_S)} (m0_ : hq_isS k0) (h : f_X8_reached_L4 n m k0 a1 a2 a3 s = some y) : hq_fc w_X8_reached s y.2 := by
  induction m generalizing k0 a1 a2 a3 s with
  | zero => cases h
  | succ m ih => exact f_X8_reached_L4_B_fw (n := n) (k0 := k0) (a1 := a1) (a2 := a2) (a3 := a3) (q4 := f_X8_reached_L4 n m) (fun k0 a1 a2 a3 s m0_ h => ih m0_ h) m0_ h
theorem f_X8_reached_fw {n : Nat} {k0 : Nat} {a1 : Int32} {s : hq_S} {y : (Int32 × hq_S)} (m0_ : hq_isS k0) (h : f_X8_reached n k0 a1 s = some y) : hq_fc w_X8_reached s y.2 := by
  unfold f_X8_reached at h
  have t := hq_fc_rf w_X8_reached s
  exact hq_fc_tr t (f_X8_reached_L4_fw m0_ h)
def w_X8_howManyParts : List (Nat × Option Nat) := []
theorem f_X8_howManyParts_L17_B_fw {n : Nat} {k0 : Nat} {a1 : Int32} {a2 : Int32} {a3 : Int32} {a4 : Int32} {q4 : Nat → Int32 → Int32 → hq_S → Option (Int32 × hq_S)} {q17 : Nat → Int32 → Int32 → Int32 → Int32 → hq_S → Option (Int32 × hq_S)} {s : hq_S} {y : (Int32 × hq_S)} (e4 : ∀ (k0 : Nat) (a1 : Int32) (a2 : Int32) (o3 : Option Value) (o4 : Option Value) (s : hq_S) (m0_ : hq_isS k0), q4 k0 a1 a2 s = some y → hq_fc w_X8_howManyParts s y.2) (e17 : ∀ (k0 : Nat) (a1 : Int32) (a2 : Int32) (a3 : Int32) (a4 : Int32) (s : hq_S) (m0_ : hq_isS k0), q17 k0 a1 a2 a3 a4 s = some y → hq_fc w_X8_howManyParts s y.2) (m0_ : hq_isS k0) (h : f_X8_howManyParts_L17_B n q4 q17 k0 a1 a2 a3 a4 s = some y) : hq_fc w_X8_howManyParts s y.2 := by
  unfold f_X8_howManyParts_L17_B at h
  have t := hq_fc_rf w_X8_howManyParts s
  by_cases c2 : a4 < a2
  · rw [if_pos c2] at h
    obtain ⟨y5, hy5, h⟩ := hq_bind h
    have t := hq_fc_tr t (hq_fc_mono (by decide) (f_X8_lanesBetween_fw m0_ hy5))
    obtain ⟨z6, hz6, h⟩ := hq_bind h
    have t : hq_fc w_X8_howManyParts s z6.2 := by
      clear h
      have h := hz6
      by_cases c7 : y5.1 = (99 : Int32)
      · rw [if_pos c7] at h
        cases h
        exact t
      · rw [if_neg c7] at h
        obtain ⟨y8, hy8, h⟩ := hq_bind h
        have t := hq_fc_tr t (hq_fc_mono (by decide) (f_X8_lanesBetween_fw m0_ hy8))
        by_cases c9 : y8.1 = (99 : Int32)
        · rw [if_pos c9] at h
          cases h
          exact t
        · rw [if_neg c9] at h
          cases h
          exact t
    exact hq_fc_tr t (e17 k0 a1 a2 (a3 &&& z6.1) (a4 + (1 : Int32)) z6.2 m0_ h)
  · rw [if_neg c2] at h
    obtain ⟨z3, hz3, h⟩ := hq_bind h
    exact hq_fc_tr t (e4 k0 (a1 + z3) (a2 + (1 : Int32)) none none s m0_ h)
theorem f_X8_howManyParts_L17_fw {n m : Nat} {k0 : Nat} {a1 : Int32} {a2 : Int32} {a3 : Int32} {a4 : Int32} {q4 : Nat → Int32 → Int32 → hq_S → Option (Int32 × hq_S)} {s : hq_S} {y : (Int32 × hq_S)} (e4 : ∀ (k0 : Nat) (a1 : Int32) (a2 : Int32) (o3 : Option Value) (o4 : Option Value) (s : hq_S) (m0_ : hq_isS k0), q4 k0 a1 a2 s = some y → hq_fc w_X8_howManyParts s y.2) (m0_ : hq_isS k0) (h : f_X8_howManyParts_L17 n q4 m k0 a1 a2 a3 a4 s = some y) : hq_fc w_X8_howManyParts s y.2 := by
  induction m generalizing k0 a1 a2 a3 a4 s with
  | zero => cases h
  | succ m ih => exact f_X8_howManyParts_L17_B_fw (n := n) (k0 := k0) (a1 := a1) (a2 := a2) (a3 := a3) (a4 := a4) (q17 := f_X8_howManyParts_L17 n q4 m) e4 (fun k0 a1 a2 a3 a4 s m0_ h => ih m0_ h) m0_ h
theorem f_X8_howManyParts_L4_B_fw {n : Nat} {k0 : Nat} {a1 : Int32} {a2 : Int32} {q4 : Nat → Int32 → Int32 → hq_S → Option (Int32 × hq_S)} {s : hq_S} {y : (Int32 × hq_S)} (e4 : ∀ (k0 : Nat) (a1 : Int32) (a2 : Int32) (o3 : Option Value) (o4 : Option Value) (s : hq_S) (m0_ : hq_isS k0), q4 k0 a1 a2 s = some y → hq_fc w_X8_howManyParts s y.2) (m0_ : hq_isS k0) (h : f_X8_howManyParts_L4_B n q4 k0 a1 a2 s = some y) : hq_fc w_X8_howManyParts s y.2 := by
  unfold f_X8_howManyParts_L4_B at h
  have t := hq_fc_rf w_X8_howManyParts s
  by_cases c1 : a2 < (hq_gi s k0 0)
  · rw [if_pos c1] at h
    exact hq_fc_tr t (f_X8_howManyParts_L17_fw e4 m0_ h)
  · rw [if_neg c1] at h
    have h := Option.some.inj h
    subst h
    exact t
theorem f_X8_howManyParts_L4_fw {n m : Nat} {k0 : Nat} {a1 : Int32} {a2 : Int32} {s : hq_S} {y : (Int32 × hq_S)} (m0_ : hq_isS k0) (h : f_X8_howManyParts_L4 n m k0 a1 a2 s = some y) : hq_fc w_X8_howManyParts s y.2 := by
  induction m generalizing k0 a1 a2 s with
  | zero => cases h
  | succ m ih => exact f_X8_howManyParts_L4_B_fw (n := n) (k0 := k0) (a1 := a1) (a2 := a2) (q4 := f_X8_howManyParts_L4 n m) (fun k0 a1 a2 _ _ s m0_ h => ih m0_ h) m0_ h
theorem f_X8_howManyParts_fw {n : Nat} {k0 : Nat} {s : hq_S} {y : (Int32 × hq_S)} (m0_ : hq_isS k0) (h : f_X8_howManyParts n k0 s = some y) : hq_fc w_X8_howManyParts s y.2 := by
  unfold f_X8_howManyParts at h
  have t := hq_fc_rf w_X8_howManyParts s
  exact hq_fc_tr t (f_X8_howManyParts_L4_fw m0_ h)
def w_X10_lanesOutOf : List (Nat × Option Nat) := []
theorem f_X10_lanesOutOf_L5_B_fw {n : Nat} {k0 : Nat} {a1 : Int32} {a2 : Int32} {a3 : Int32} {a4 : Int32} {q5 : Nat → Int32 → Int32 → Int32 → Int32 → hq_S → Option (Int32 × hq_S)} {s : hq_S} {y : (Int32 × hq_S)} (e5 : ∀ (k0 : Nat) (a1 : Int32) (a2 : Int32) (a3 : Int32) (a4 : Int32) (o5 : Option Value) (o6 : Option Value) (o7 : Option Value) (s : hq_S) (m0_ : hq_isT k0), q5 k0 a1 a2 a3 a4 s = some y → hq_fc w_X10_lanesOutOf s y.2) (m0_ : hq_isT k0) (h : f_X10_lanesOutOf_L5_B n q5 k0 a1 a2 a3 a4 s = some y) : hq_fc w_X10_lanesOutOf s y.2 := by
  unfold f_X10_lanesOutOf_L5_B at h
  have t := hq_fc_rf w_X10_lanesOutOf s
  by_cases c1 : a4 < (hq_gi s k0 3)
  · rw [if_pos c1] at h
    obtain ⟨x2, hx2, h⟩ := hq_bind h
    obtain ⟨z3, hz3, h⟩ := hq_bind h
    obtain ⟨x5, hx5, h⟩ := hq_bind h
    obtain ⟨z6, hz6, h⟩ := hq_bind h
    obtain ⟨z8, hz8, h⟩ := hq_bind h
    have t : hq_fc w_X10_lanesOutOf s z8.2 := by
      clear h
      have h := hz8
      by_cases c9 : z3 = 0
      · rw [if_pos c9] at h
        by_cases c10 : z6 = 0
        · rw [if_pos c10] at h
          cases h
          exact t
        · rw [if_neg c10] at h
          by_cases c11 : z3 = 0
          · rw [if_pos c11] at h
            obtain ⟨y12, hy12, h⟩ := hq_bind h
            have t := hq_fc_tr t (hq_fc_mono (by decide) (f_X10_isOneWay_fw m0_ hy12))
            by_cases c13 : y12.1 = 0
            · rw [if_pos c13] at h
              cases h
              exact t
            · rw [if_neg c13] at h
              cases h
              exact t
          · rw [if_neg c11] at h
            cases h
            exact t
      · rw [if_neg c9] at h
        by_cases c14 : z6 = 0
        · rw [if_pos c14] at h
          cases h
          exact t
        · rw [if_neg c14] at h
          by_cases c15 : z6 = 0
          · rw [if_pos c15] at h
            cases h
            exact t
          · rw [if_neg c15] at h
            by_cases c16 : z3 = 0
            · rw [if_pos c16] at h
              obtain ⟨y17, hy17, h⟩ := hq_bind h
              have t := hq_fc_tr t (hq_fc_mono (by decide) (f_X10_isOneWay_fw m0_ hy17))
              by_cases c18 : y17.1 = 0
              · rw [if_pos c18] at h
                cases h
                exact t
              · rw [if_neg c18] at h
                cases h
                exact t
            · rw [if_neg c16] at h
              cases h
              exact t
    obtain ⟨z19, hz19, h⟩ := hq_bind h
    exact hq_fc_tr t (e5 k0 a1 a2 (a3 + z19) (a4 + (1 : Int32)) none none none z8.2 m0_ h)
  · rw [if_neg c1] at h
    have h := Option.some.inj h
    subst h
    exact t
theorem f_X10_lanesOutOf_L5_fw {n m : Nat} {k0 : Nat} {a1 : Int32} {a2 : Int32} {a3 : Int32} {a4 : Int32} {s : hq_S} {y : (Int32 × hq_S)} (m0_ : hq_isT k0) (h : f_X10_lanesOutOf_L5 n m k0 a1 a2 a3 a4 s = some y) : hq_fc w_X10_lanesOutOf s y.2 := by
  induction m generalizing k0 a1 a2 a3 a4 s with
  | zero => cases h
  | succ m ih => exact f_X10_lanesOutOf_L5_B_fw (n := n) (k0 := k0) (a1 := a1) (a2 := a2) (a3 := a3) (a4 := a4) (q5 := f_X10_lanesOutOf_L5 n m) (fun k0 a1 a2 a3 a4 _ _ _ s m0_ h => ih m0_ h) m0_ h
theorem f_X10_lanesOutOf_fw {n : Nat} {k0 : Nat} {a1 : Int32} {a2 : Int32} {s : hq_S} {y : (Int32 × hq_S)} (m0_ : hq_isT k0) (h : f_X10_lanesOutOf n k0 a1 a2 s = some y) : hq_fc w_X10_lanesOutOf s y.2 := by
  unfold f_X10_lanesOutOf at h
  have t := hq_fc_rf w_X10_lanesOutOf s
  exact hq_fc_tr t (f_X10_lanesOutOf_L5_fw m0_ h)
def w_X10_fewestBars : List (Nat × Option Nat) := []
theorem f_X10_fewestBars_L7_B_fw {n : Nat} {k0 : Nat} {a1 : Int32} {a2 : Int32} {a3 : Int32} {a4 : Int32} {a5 : Int32} {q7 : Nat → Int32 → Int32 → Int32 → Int32 → Int32 → hq_S → Option (Int32 × hq_S)} {s : hq_S} {y : (Int32 × hq_S)} (e7 : ∀ (k0 : Nat) (a1 : Int32) (a2 : Int32) (a3 : Int32) (a4 : Int32) (a5 : Int32) (s : hq_S) (m0_ : hq_isT k0), q7 k0 a1 a2 a3 a4 a5 s = some y → hq_fc w_X10_fewestBars s y.2) (m0_ : hq_isT k0) (h : f_X10_fewestBars_L7_B n q7 k0 a1 a2 a3 a4 a5 s = some y) : hq_fc w_X10_fewestBars s y.2 := by
  unfold f_X10_fewestBars_L7_B at h
  have t := hq_fc_rf w_X10_fewestBars s
  by_cases c1 : a5 < ((1 : Int32) <<< ((hq_gi s k0 0) &&& 31))
  · rw [if_pos c1] at h
    obtain ⟨z2, hz2, h⟩ := hq_bind h
    have t : hq_fc w_X10_fewestBars s z2.2 := by
      clear h
      have h := hz2
      by_cases c3 : ((a5 >>> (a2 &&& 31)) &&& (1 : Int32)) = (1 : Int32)
      · rw [if_pos c3] at h
        by_cases c4 : ((a5 >>> (a3 &&& 31)) &&& (1 : Int32)) = 0
        · rw [if_pos c4] at h
          obtain ⟨y5, hy5, h⟩ := hq_bind h
          have t := hq_fc_tr t (hq_fc_mono (by decide) (f_X10_lanesOutOf_fw m0_ hy5))
          cases h
          exact t
        · rw [if_neg c4] at h
          cases h
          exact t
      · rw [if_neg c3] at h
        cases h
        exact t
    exact hq_fc_tr t (e7 k0 a1 a2 a3 z2.1 (a5 + (1 : Int32)) z2.2 m0_ h)
  · rw [if_neg c1] at h
    have h := Option.some.inj h
    subst h
    exact t
theorem f_X10_fewestBars_L7_fw {n m : Nat} {k0 : Nat} {a1 : Int32} {a2 : Int32} {a3 : Int32} {a4 : Int32} {a5 : Int32} {s : hq_S} {y : (Int32 × hq_S)} (m0_ : hq_isT k0) (h : f_X10_fewestBars_L7 n m k0 a1 a2 a3 a4 a5 s = some y) : hq_fc w_X10_fewestBars s y.2 := by
  induction m generalizing k0 a1 a2 a3 a4 a5 s with
  | zero => cases h
  | succ m ih => exact f_X10_fewestBars_L7_B_fw (n := n) (k0 := k0) (a1 := a1) (a2 := a2) (a3 := a3) (a4 := a4) (a5 := a5) (q7 := f_X10_fewestBars_L7 n m) (fun k0 a1 a2 a3 a4 a5 s m0_ h => ih m0_ h) m0_ h
theorem f_X10_fewestBars_fw {n : Nat} {k0 : Nat} {a1 : Int32} {a2 : Int32} {a3 : Int32} {s : hq_S} {y : (Int32 × hq_S)} (m0_ : hq_isT k0) (h : f_X10_fewestBars n k0 a1 a2 a3 s = some y) : hq_fc w_X10_fewestBars s y.2 := by
  unfold f_X10_fewestBars at h
  have t := hq_fc_rf w_X10_fewestBars s
  exact hq_fc_tr t (f_X10_fewestBars_L7_fw m0_ h)
def w_X11_putFour : List (Nat × Option Nat) := [(0, some 1), (1, none)]
theorem f_X11_putFour_L3_B_fw {n : Nat} {a1 : Int32} {a2 : Int32} {q3 : Int32 → Int32 → hq_S → Option hq_S} {s : hq_S} {y : hq_S} (e3 : ∀ (a1 : Int32) (a2 : Int32) (s : hq_S), q3 a1 a2 s = some y → hq_fc w_X11_putFour s y) (h : f_X11_putFour_L3_B n q3 a1 a2 s = some y) : hq_fc w_X11_putFour s y := by
  unfold f_X11_putFour_L3_B at h
  have t := hq_fc_rf w_X11_putFour s
  by_cases c1 : a2 < 0
  · rw [if_pos c1] at h
    have h := Option.some.inj h
    subst h
    exact t
  · rw [if_neg c1] at h
    by_cases c2 : (hq_gi s 0 1) < (700 : Int32)
    · rw [if_pos c2] at h
      obtain ⟨s3, hs3, h⟩ := hq_bind h
      have t := hq_fc_tr t (hq_fc_st hs3 (by decide))
      obtain ⟨s4, hs4, h⟩ := hq_bind h
      have t := hq_fc_tr t (hq_fc_pi hs4 (by decide))
      exact hq_fc_tr t (e3 a1 (a2 + Int32.ofInt (-8)) s4 h)
    · rw [if_neg c2] at h
      have h := Option.some.inj h
      subst h
      exact t
theorem f_X11_putFour_L3_fw {n m : Nat} {a1 : Int32} {a2 : Int32} {s : hq_S} {y : hq_S} (h : f_X11_putFour_L3 n m a1 a2 s = some y) : hq_fc w_X11_putFour s y := by
  induction m generalizing a1 a2 s with
  | zero => cases h
  | succ m ih => exact f_X11_putFour_L3_B_fw (n := n) (a1 := a1) (a2 := a2) (q3 := f_X11_putFour_L3 n m) (fun a1 a2 s h => ih h) h
theorem f_X11_putFour_fw {n : Nat} {a1 : Int32} {s : hq_S} {y : hq_S} (h : f_X11_putFour n a1 s = some y) : hq_fc w_X11_putFour s y := by
  unfold f_X11_putFour at h
  have t := hq_fc_rf w_X11_putFour s
  exact hq_fc_tr t (f_X11_putFour_L3_fw h)
def w_X11_feed : List (Nat × Option Nat) := [(0, some 1), (1, none)]
theorem f_X11_feed_fw {n : Nat} {a1 : Int32} {a2 : Int32} {a3 : Int32} {a4 : Int32} {a5 : Int32} {s : hq_S} {y : (Int32 × hq_S)} (h : f_X11_feed n a1 a2 a3 a4 a5 s = some y) : hq_fc w_X11_feed s y.2 := by
  unfold f_X11_feed at h
  have t := hq_fc_rf w_X11_feed s
  by_cases c1 : (700 : Int32) < ((hq_gi s 0 1) + (20 : Int32))
  · rw [if_pos c1] at h
    have h := Option.some.inj h
    subst h
    exact t
  · rw [if_neg c1] at h
    obtain ⟨s2, hs2, h⟩ := hq_bind h
    have t := hq_fc_tr t (hq_fc_mono (by decide) (f_X11_putFour_fw hs2))
    obtain ⟨s3, hs3, h⟩ := hq_bind h
    have t := hq_fc_tr t (hq_fc_mono (by decide) (f_X11_putFour_fw hs3))
    obtain ⟨s4, hs4, h⟩ := hq_bind h
    have t := hq_fc_tr t (hq_fc_mono (by decide) (f_X11_putFour_fw hs4))
    obtain ⟨s5, hs5, h⟩ := hq_bind h
    have t := hq_fc_tr t (hq_fc_mono (by decide) (f_X11_putFour_fw hs5))
    obtain ⟨s6, hs6, h⟩ := hq_bind h
    have t := hq_fc_tr t (hq_fc_mono (by decide) (f_X11_putFour_fw hs6))
    have h := Option.some.inj h
    subst h
    exact t
def w_X11_fault : List (Nat × Option Nat) := []
theorem f_X11_fault_fw {n : Nat} {a1 : Int32} {s : hq_S} {y : (Int32 × hq_S)} (h : f_X11_fault n a1 s = some y) : hq_fc w_X11_fault s y.2 := by
  unfold f_X11_fault at h
  have t := hq_fc_rf w_X11_fault s
  by_cases c1 : a1 = 0
  · rw [if_pos c1] at h
    have h := Option.some.inj h
    subst h
    exact t
  · rw [if_neg c1] at h
    by_cases c2 : a1 = (1 : Int32)
    · rw [if_pos c2] at h
      have h := Option.some.inj h
      subst h
      exact t
    · rw [if_neg c2] at h
      have h := Option.some.inj h
      subst h
      exact t
def w_X11_named : List (Nat × Option Nat) := []
theorem f_X11_named_fw {n : Nat} {a1 : Int32} {a2 : Int32} {s : hq_S} {y : (Int32 × hq_S)} (h : f_X11_named n a1 a2 s = some y) : hq_fc w_X11_named s y.2 := by
  unfold f_X11_named at h
  have t := hq_fc_rf w_X11_named s
  by_cases c1 : a1 = 0
  · rw [if_pos c1] at h
    have m10 : hq_isT (hq_gr s 0 2) := hq_ifT h
    skip
    rw [if_pos m10] at h
    have m11 : hq_isT (hq_gr s 0 2) := hq_ifT h
    skip
    rw [if_pos m11] at h
    obtain ⟨y12, hy12, h⟩ := hq_bind h
    have t := hq_fc_tr t (hq_fc_mono (by decide) (f_X10_placeOf_fw hy12))
    have h := Option.some.inj h
    subst h
    exact t
  · rw [if_neg c1] at h
    by_cases c2 : a1 = (1 : Int32)
    · rw [if_pos c2] at h
      have m7 : hq_isT (hq_gr s 0 2) := hq_ifT h
      skip
      rw [if_pos m7] at h
      have m8 : hq_isT (hq_gr s 0 2) := hq_ifT h
      skip
      rw [if_pos m8] at h
      obtain ⟨y9, hy9, h⟩ := hq_bind h
      have t := hq_fc_tr t (hq_fc_mono (by decide) (f_X10_placeOf_fw hy9))
      have h := Option.some.inj h
      subst h
      exact t
    · rw [if_neg c2] at h
      by_cases c3 : a1 = (2 : Int32)
      · rw [if_pos c3] at h
        have m4 : hq_isT (hq_gr s 0 2) := hq_ifT h
        skip
        rw [if_pos m4] at h
        have m5 : hq_isT (hq_gr s 0 2) := hq_ifT h
        skip
        rw [if_pos m5] at h
        obtain ⟨y6, hy6, h⟩ := hq_bind h
        have t := hq_fc_tr t (hq_fc_mono (by decide) (f_X10_placeOf_fw hy6))
        have h := Option.some.inj h
        subst h
        exact t
      · rw [if_neg c3] at h
        have h := Option.some.inj h
        subst h
        exact t
def w_X11_isCorner : List (Nat × Option Nat) := []
theorem f_X11_isCorner_fw {n : Nat} {a1 : Int32} {s : hq_S} {y : (Int32 × hq_S)} (h : f_X11_isCorner n a1 s = some y) : hq_fc w_X11_isCorner s y.2 := by
  unfold f_X11_isCorner at h
  have t := hq_fc_rf w_X11_isCorner s
  by_cases c1 : a1 < 0
  · rw [if_pos c1] at h
    have h := Option.some.inj h
    subst h
    exact t
  · rw [if_neg c1] at h
    have m2 : hq_isT (hq_gr s 0 2) := hq_ifT h
    skip
    rw [if_pos m2] at h
    by_cases c3 : a1 < (hq_gi s (hq_gr s 0 2) 0)
    · rw [if_pos c3] at h
      have h := Option.some.inj h
      subst h
      exact t
    · rw [if_neg c3] at h
      have h := Option.some.inj h
      subst h
      exact t
def w_X11_guardsAt : List (Nat × Option Nat) := []
theorem f_X11_guardsAt_L4_B_fw {n : Nat} {a1 : Int32} {a2 : Int32} {a3 : Int32} {q4 : Int32 → Int32 → Int32 → hq_S → Option (Int32 × hq_S)} {s : hq_S} {y : (Int32 × hq_S)} (e4 : ∀ (a1 : Int32) (a2 : Int32) (a3 : Int32) (s : hq_S), q4 a1 a2 a3 s = some y → hq_fc w_X11_guardsAt s y.2) (h : f_X11_guardsAt_L4_B n q4 a1 a2 a3 s = some y) : hq_fc w_X11_guardsAt s y.2 := by
  unfold f_X11_guardsAt_L4_B at h
  have t := hq_fc_rf w_X11_guardsAt s
  have m1 : hq_isT (hq_gr s 0 2) := hq_ifT h
  skip
  rw [if_pos m1] at h
  by_cases c2 : a3 < (hq_gi s (hq_gr s 0 2) 7)
  · rw [if_pos c2] at h
    obtain ⟨x3, hx3, h⟩ := hq_bind h
    obtain ⟨z4, hz4, h⟩ := hq_bind h
    exact hq_fc_tr t (e4 a1 (a2 ||| z4) (a3 + (1 : Int32)) s h)
  · rw [if_neg c2] at h
    have h := Option.some.inj h
    subst h
    exact t
theorem f_X11_guardsAt_L4_fw {n m : Nat} {a1 : Int32} {a2 : Int32} {a3 : Int32} {s : hq_S} {y : (Int32 × hq_S)} (h : f_X11_guardsAt_L4 n m a1 a2 a3 s = some y) : hq_fc w_X11_guardsAt s y.2 := by
  induction m generalizing a1 a2 a3 s with
  | zero => cases h
  | succ m ih => exact f_X11_guardsAt_L4_B_fw (n := n) (a1 := a1) (a2 := a2) (a3 := a3) (q4 := f_X11_guardsAt_L4 n m) (fun a1 a2 a3 s h => ih h) h
theorem f_X11_guardsAt_fw {n : Nat} {a1 : Int32} {s : hq_S} {y : (Int32 × hq_S)} (h : f_X11_guardsAt n a1 s = some y) : hq_fc w_X11_guardsAt s y.2 := by
  unfold f_X11_guardsAt at h
  have t := hq_fc_rf w_X11_guardsAt s
  exact hq_fc_tr t (f_X11_guardsAt_L4_fw h)
def w_X11_thievesAt : List (Nat × Option Nat) := []
theorem f_X11_thievesAt_L4_B_fw {n : Nat} {a1 : Int32} {a2 : Int32} {a3 : Int32} {q4 : Int32 → Int32 → Int32 → hq_S → Option (Int32 × hq_S)} {s : hq_S} {y : (Int32 × hq_S)} (e4 : ∀ (a1 : Int32) (a2 : Int32) (a3 : Int32) (s : hq_S), q4 a1 a2 a3 s = some y → hq_fc w_X11_thievesAt s y.2) (h : f_X11_thievesAt_L4_B n q4 a1 a2 a3 s = some y) : hq_fc w_X11_thievesAt s y.2 := by
  unfold f_X11_thievesAt_L4_B at h
  have t := hq_fc_rf w_X11_thievesAt s
  have m1 : hq_isT (hq_gr s 0 2) := hq_ifT h
  skip
  rw [if_pos m1] at h
  by_cases c2 : a3 < (hq_gi s (hq_gr s 0 2) 11)
  · rw [if_pos c2] at h
    obtain ⟨y3, hy3, h⟩ := hq_bind h
    have t := hq_fc_tr t (hq_fc_mono (by decide) (f_X5_isFree_fw (by decide) hy3))
    obtain ⟨z4, hz4, h⟩ := hq_bind h
    exact hq_fc_tr t (e4 a1 (a2 ||| z4) (a3 + (1 : Int32)) y3.2 h)
  · rw [if_neg c2] at h
    have h := Option.some.inj h
    subst h
    exact t
theorem f_X11_thievesAt_L4_fw {n m : Nat} {a1 : Int32} {a2 : Int32} {a3 : Int32} {s : hq_S} {y : (Int32 × hq_S)} (h : f_X11_thievesAt_L4 n m a1 a2 a3 s = some y) : hq_fc w_X11_thievesAt s y.2 := by
  induction m generalizing a1 a2 a3 s with
  | zero => cases h
  | succ m ih => exact f_X11_thievesAt_L4_B_fw (n := n) (a1 := a1) (a2 := a2) (a3 := a3) (q4 := f_X11_thievesAt_L4 n m) (fun a1 a2 a3 s h => ih h) h
theorem f_X11_thievesAt_fw {n : Nat} {a1 : Int32} {s : hq_S} {y : (Int32 × hq_S)} (h : f_X11_thievesAt n a1 s = some y) : hq_fc w_X11_thievesAt s y.2 := by
  unfold f_X11_thievesAt at h
  have t := hq_fc_rf w_X11_thievesAt s
  exact hq_fc_tr t (f_X11_thievesAt_L4_fw h)
def w_X11_isGuard : List (Nat × Option Nat) := []
theorem f_X11_isGuard_fw {n : Nat} {a1 : Int32} {s : hq_S} {y : (Int32 × hq_S)} (h : f_X11_isGuard n a1 s = some y) : hq_fc w_X11_isGuard s y.2 := by
  unfold f_X11_isGuard at h
  have t := hq_fc_rf w_X11_isGuard s
  by_cases c1 : a1 < 0
  · rw [if_pos c1] at h
    have h := Option.some.inj h
    subst h
    exact t
  · rw [if_neg c1] at h
    have m2 : hq_isT (hq_gr s 0 2) := hq_ifT h
    skip
    rw [if_pos m2] at h
    by_cases c3 : a1 < (hq_gi s (hq_gr s 0 2) 7)
    · rw [if_pos c3] at h
      have h := Option.some.inj h
      subst h
      exact t
    · rw [if_neg c3] at h
      have h := Option.some.inj h
      subst h
      exact t
def w_X11_guard : List (Nat × Option Nat) := []
theorem f_X11_guard_fw {n : Nat} {a1 : Int32} {a2 : Int32} {s : hq_S} {y : (Int32 × hq_S)} (h : f_X11_guard n a1 a2 s = some y) : hq_fc w_X11_guard s y.2 := by
  unfold f_X11_guard at h
  have t := hq_fc_rf w_X11_guard s
  obtain ⟨y1, hy1, h⟩ := hq_bind h
  have t := hq_fc_tr t (hq_fc_mono (by decide) (f_X11_isGuard_fw hy1))
  by_cases c2 : y1.1 = 0
  · rw [if_pos c2] at h
    have h := Option.some.inj h
    subst h
    exact t
  · rw [if_neg c2] at h
    by_cases c3 : a2 = (0 : Int32)
    · rw [if_pos c3] at h
      obtain ⟨x4, hx4, h⟩ := hq_bind h
      have h := Option.some.inj h
      subst h
      exact t
    rw [if_neg c3] at h
    by_cases c5 : a2 = (1 : Int32)
    · rw [if_pos c5] at h
      have m6 : hq_isT (hq_gr y1.2 0 2) := hq_ifT h
      skip
      rw [if_pos m6] at h
      obtain ⟨x7, hx7, h⟩ := hq_bind h
      by_cases c8 : x7 = 0
      · rw [if_pos c8] at h
        have h := Option.some.inj h
        subst h
        exact t
      · rw [if_neg c8] at h
        obtain ⟨x9, hx9, h⟩ := hq_bind h
        have h := Option.some.inj h
        subst h
        exact t
    rw [if_neg c5] at h
    by_cases c10 : a2 = (2 : Int32)
    · rw [if_pos c10] at h
      obtain ⟨x11, hx11, h⟩ := hq_bind h
      have h := Option.some.inj h
      subst h
      exact t
    rw [if_neg c10] at h
    have h := Option.some.inj h
    subst h
    exact t
def w_X11_isThief : List (Nat × Option Nat) := []
theorem f_X11_isThief_fw {n : Nat} {a1 : Int32} {s : hq_S} {y : (Int32 × hq_S)} (h : f_X11_isThief n a1 s = some y) : hq_fc w_X11_isThief s y.2 := by
  unfold f_X11_isThief at h
  have t := hq_fc_rf w_X11_isThief s
  by_cases c1 : a1 < 0
  · rw [if_pos c1] at h
    have h := Option.some.inj h
    subst h
    exact t
  · rw [if_neg c1] at h
    have m2 : hq_isT (hq_gr s 0 2) := hq_ifT h
    skip
    rw [if_pos m2] at h
    by_cases c3 : a1 < (hq_gi s (hq_gr s 0 2) 11)
    · rw [if_pos c3] at h
      have h := Option.some.inj h
      subst h
      exact t
    · rw [if_neg c3] at h
      have h := Option.some.inj h
      subst h
      exact t
def w_X11_thief : List (Nat × Option Nat) := []
theorem f_X11_thief_fw {n : Nat} {a1 : Int32} {a2 : Int32} {s : hq_S} {y : (Int32 × hq_S)} (h : f_X11_thief n a1 a2 s = some y) : hq_fc w_X11_thief s y.2 := by
  unfold f_X11_thief at h
  have t := hq_fc_rf w_X11_thief s
  obtain ⟨y1, hy1, h⟩ := hq_bind h
  have t := hq_fc_tr t (hq_fc_mono (by decide) (f_X11_isThief_fw hy1))
  by_cases c2 : y1.1 = 0
  · rw [if_pos c2] at h
    have h := Option.some.inj h
    subst h
    exact t
  · rw [if_neg c2] at h
    by_cases c3 : a2 = (0 : Int32)
    · rw [if_pos c3] at h
      obtain ⟨x4, hx4, h⟩ := hq_bind h
      have h := Option.some.inj h
      subst h
      exact t
    rw [if_neg c3] at h
    by_cases c5 : a2 = (1 : Int32)
    · rw [if_pos c5] at h
      obtain ⟨x6, hx6, h⟩ := hq_bind h
      have h := Option.some.inj h
      subst h
      exact t
    rw [if_neg c5] at h
    by_cases c7 : a2 = (2 : Int32)
    · rw [if_pos c7] at h
      obtain ⟨x8, hx8, h⟩ := hq_bind h
      have h := Option.some.inj h
      subst h
      exact t
    rw [if_neg c7] at h
    by_cases c9 : a2 = (3 : Int32)
    · rw [if_pos c9] at h
      obtain ⟨x10, hx10, h⟩ := hq_bind h
      have h := Option.some.inj h
      subst h
      exact t
    rw [if_neg c9] at h
    have h := Option.some.inj h
    subst h
    exact t
def w_X11_isLane : List (Nat × Option Nat) := []
theorem f_X11_isLane_fw {n : Nat} {a1 : Int32} {s : hq_S} {y : (Int32 × hq_S)} (h : f_X11_isLane n a1 s = some y) : hq_fc w_X11_isLane s y.2 := by
  unfold f_X11_isLane at h
  have t := hq_fc_rf w_X11_isLane s
  by_cases c1 : a1 < 0
  · rw [if_pos c1] at h
    have h := Option.some.inj h
    subst h
    exact t
  · rw [if_neg c1] at h
    have m2 : hq_isT (hq_gr s 0 2) := hq_ifT h
    skip
    rw [if_pos m2] at h
    by_cases c3 : a1 < (hq_gi s (hq_gr s 0 2) 3)
    · rw [if_pos c3] at h
      have h := Option.some.inj h
      subst h
      exact t
    · rw [if_neg c3] at h
      have h := Option.some.inj h
      subst h
      exact t
def w_X11_lane : List (Nat × Option Nat) := []
theorem f_X11_lane_fw {n : Nat} {a1 : Int32} {a2 : Int32} {s : hq_S} {y : (Int32 × hq_S)} (h : f_X11_lane n a1 a2 s = some y) : hq_fc w_X11_lane s y.2 := by
  unfold f_X11_lane at h
  have t := hq_fc_rf w_X11_lane s
  obtain ⟨y1, hy1, h⟩ := hq_bind h
  have t := hq_fc_tr t (hq_fc_mono (by decide) (f_X11_isLane_fw hy1))
  by_cases c2 : y1.1 = 0
  · rw [if_pos c2] at h
    have h := Option.some.inj h
    subst h
    exact t
  · rw [if_neg c2] at h
    by_cases c3 : a2 = (0 : Int32)
    · rw [if_pos c3] at h
      have m4 : hq_isT (hq_gr y1.2 0 2) := hq_ifT h
      skip
      rw [if_pos m4] at h
      obtain ⟨x5, hx5, h⟩ := hq_bind h
      have h := Option.some.inj h
      subst h
      exact t
    rw [if_neg c3] at h
    by_cases c6 : a2 = (1 : Int32)
    · rw [if_pos c6] at h
      have m7 : hq_isT (hq_gr y1.2 0 2) := hq_ifT h
      skip
      rw [if_pos m7] at h
      obtain ⟨x8, hx8, h⟩ := hq_bind h
      have h := Option.some.inj h
      subst h
      exact t
    rw [if_neg c6] at h
    by_cases c9 : a2 = (2 : Int32)
    · rw [if_pos c9] at h
      have m10 : hq_isT (hq_gr y1.2 0 2) := hq_ifT h
      skip
      rw [if_pos m10] at h
      have h := Option.some.inj h
      subst h
      exact t
    rw [if_neg c9] at h
    by_cases c11 : a2 = (3 : Int32)
    · rw [if_pos c11] at h
      have h := Option.some.inj h
      subst h
      exact t
    rw [if_neg c11] at h
    have h := Option.some.inj h
    subst h
    exact t
def w_X11_send : List (Nat × Option Nat) := [(78, none), (170, some 0), (171, none), (172, none), (173, none)]
theorem f_X11_send_fw {n : Nat} {a1 : Int32} {a2 : Int32} {s : hq_S} {y : (Int32 × hq_S)} (h : f_X11_send n a1 a2 s = some y) : hq_fc w_X11_send s y.2 := by
  unfold f_X11_send at h
  have t := hq_fc_rf w_X11_send s
  obtain ⟨y1, hy1, h⟩ := hq_bind h
  have t := hq_fc_tr t (hq_fc_mono (by decide) (f_X11_isGuard_fw hy1))
  by_cases c2 : y1.1 = 0
  · rw [if_pos c2] at h
    have h := Option.some.inj h
    subst h
    exact t
  · rw [if_neg c2] at h
    obtain ⟨y3, hy3, h⟩ := hq_bind h
    have t := hq_fc_tr t (hq_fc_mono (by decide) (f_X11_isCorner_fw hy3))
    by_cases c4 : y3.1 = 0
    · rw [if_pos c4] at h
      have h := Option.some.inj h
      subst h
      exact t
    · rw [if_neg c4] at h
      obtain ⟨x5, hx5, h⟩ := hq_bind h
      obtain ⟨x6, hx6, h⟩ := hq_bind h
      by_cases c7 : ((x6 >>> (a2 &&& 31)) &&& (1 : Int32)) = 0
      · rw [if_pos c7] at h
        have h := Option.some.inj h
        subst h
        exact t
      · rw [if_neg c7] at h
        obtain ⟨s8, hs8, h⟩ := hq_bind h
        have t := hq_fc_tr t (hq_fc_mono (by decide) (f_X1_note_fw hs8))
        obtain ⟨s9, hs9, h⟩ := hq_bind h
        have t := hq_fc_tr t (hq_fc_st hs9 (by decide))
        have h := Option.some.inj h
        subst h
        exact t
def w_X11_drop : List (Nat × Option Nat) := [(77, none), (170, some 0), (171, none), (172, none), (173, none)]
theorem f_X11_drop_fw {n : Nat} {a1 : Int32} {a2 : Int32} {s : hq_S} {y : (Int32 × hq_S)} (h : f_X11_drop n a1 a2 s = some y) : hq_fc w_X11_drop s y.2 := by
  unfold f_X11_drop at h
  have t := hq_fc_rf w_X11_drop s
  obtain ⟨y1, hy1, h⟩ := hq_bind h
  have t := hq_fc_tr t (hq_fc_mono (by decide) (f_X11_isCorner_fw hy1))
  by_cases c2 : y1.1 = 0
  · rw [if_pos c2] at h
    have h := Option.some.inj h
    subst h
    exact t
  · rw [if_neg c2] at h
    by_cases c3 : a2 < (1 : Int32)
    · rw [if_pos c3] at h
      have h := Option.some.inj h
      subst h
      exact t
    · rw [if_neg c3] at h
      by_cases c4 : (999 : Int32) < a2
      · rw [if_pos c4] at h
        have h := Option.some.inj h
        subst h
        exact t
      · rw [if_neg c4] at h
        obtain ⟨x5, hx5, h⟩ := hq_bind h
        obtain ⟨s6, hs6, h⟩ := hq_bind h
        have t := hq_fc_tr t (hq_fc_mono (by decide) (f_X1_note_fw hs6))
        obtain ⟨x7, hx7, h⟩ := hq_bind h
        obtain ⟨s8, hs8, h⟩ := hq_bind h
        have t := hq_fc_tr t (hq_fc_st hs8 (by decide))
        obtain ⟨x9, hx9, h⟩ := hq_bind h
        have h := Option.some.inj h
        subst h
        exact t
def w_X11_far : List (Nat × Option Nat) := []
theorem f_X11_far_fw {n : Nat} {a1 : Int32} {a2 : Int32} {s : hq_S} {y : (Int32 × hq_S)} (h : f_X11_far n a1 a2 s = some y) : hq_fc w_X11_far s y.2 := by
  unfold f_X11_far at h
  have t := hq_fc_rf w_X11_far s
  obtain ⟨y1, hy1, h⟩ := hq_bind h
  have t := hq_fc_tr t (hq_fc_mono (by decide) (f_X11_isCorner_fw hy1))
  by_cases c2 : y1.1 = 0
  · rw [if_pos c2] at h
    have h := Option.some.inj h
    subst h
    exact t
  · rw [if_neg c2] at h
    obtain ⟨y3, hy3, h⟩ := hq_bind h
    have t := hq_fc_tr t (hq_fc_mono (by decide) (f_X11_isCorner_fw hy3))
    by_cases c4 : y3.1 = 0
    · rw [if_pos c4] at h
      have h := Option.some.inj h
      subst h
      exact t
    · rw [if_neg c4] at h
      obtain ⟨y5, hy5, h⟩ := hq_bind h
      have t := hq_fc_tr t (hq_fc_mono (by decide) (f_X8_lanesBetween_fw (by decide) hy5))
      have h := Option.some.inj h
      subst h
      exact t
def w_X11_way : List (Nat × Option Nat) := []
theorem f_X11_way_L55_B_fw {n : Nat} {a1 : Int32} {a2 : Int32} {a3 : Int32} {a4 : Int32} {a5 : Int32} {a6 : Int32} {q55 : Int32 → Int32 → Int32 → Int32 → Int32 → Int32 → hq_S → Option (Int32 × hq_S)} {s : hq_S} {y : (Int32 × hq_S)} (e55 : ∀ (a1 : Int32) (a2 : Int32) (a3 : Int32) (a4 : Int32) (a5 : Int32) (a6 : Int32) (s : hq_S), q55 a1 a2 a3 a4 a5 a6 s = some y → hq_fc w_X11_way s y.2) (h : f_X11_way_L55_B n q55 a1 a2 a3 a4 a5 a6 s = some y) : hq_fc w_X11_way s y.2 := by
  unfold f_X11_way_L55_B at h
  have t := hq_fc_rf w_X11_way s
  by_cases c9 : a6 < a3
  · rw [if_pos c9] at h
    by_cases c10 : a5 = (-1 : Int32)
    · rw [if_pos c10] at h
      have h := Option.some.inj h
      subst h
      exact t
    · rw [if_neg c10] at h
      obtain ⟨y11, hy11, h⟩ := hq_bind h
      have t := hq_fc_tr t (hq_fc_mono (by decide) (f_X8_onward_fw (by decide) hy11))
      exact hq_fc_tr t (e55 a1 a2 a3 a4 y11.1 (a6 + (1 : Int32)) y11.2 h)
  · rw [if_neg c9] at h
    have h := Option.some.inj h
    subst h
    exact t
theorem f_X11_way_L55_fw {n m : Nat} {a1 : Int32} {a2 : Int32} {a3 : Int32} {a4 : Int32} {a5 : Int32} {a6 : Int32} {s : hq_S} {y : (Int32 × hq_S)} (h : f_X11_way_L55 n m a1 a2 a3 a4 a5 a6 s = some y) : hq_fc w_X11_way s y.2 := by
  induction m generalizing a1 a2 a3 a4 a5 a6 s with
  | zero => cases h
  | succ m ih => exact f_X11_way_L55_B_fw (n := n) (a1 := a1) (a2 := a2) (a3 := a3) (a4 := a4) (a5 := a5) (a6 := a6) (q55 := f_X11_way_L55 n m) (fun a1 a2 a3 a4 a5 a6 s h => ih h) h
theorem f_X11_way_fw {n : Nat} {a1 : Int32} {a2 : Int32} {a3 : Int32} {s : hq_S} {y : (Int32 × hq_S)} (h : f_X11_way n a1 a2 a3 s = some y) : hq_fc w_X11_way s y.2 := by
  unfold f_X11_way at h
  have t := hq_fc_rf w_X11_way s
  obtain ⟨y1, hy1, h⟩ := hq_bind h
  have t := hq_fc_tr t (hq_fc_mono (by decide) (f_X11_isCorner_fw hy1))
  by_cases c2 : y1.1 = 0
  · rw [if_pos c2] at h
    have h := Option.some.inj h
    subst h
    exact t
  · rw [if_neg c2] at h
    obtain ⟨y3, hy3, h⟩ := hq_bind h
    have t := hq_fc_tr t (hq_fc_mono (by decide) (f_X11_isCorner_fw hy3))
    by_cases c4 : y3.1 = 0
    · rw [if_pos c4] at h
      have h := Option.some.inj h
      subst h
      exact t
    · rw [if_neg c4] at h
      by_cases c5 : a3 < 0
      · rw [if_pos c5] at h
        have h := Option.some.inj h
        subst h
        exact t
      · rw [if_neg c5] at h
        obtain ⟨y6, hy6, h⟩ := hq_bind h
        have t := hq_fc_tr t (hq_fc_mono (by decide) (f_X8_lanesBetween_fw (by decide) hy6))
        by_cases c7 : y6.1 = (99 : Int32)
        · rw [if_pos c7] at h
          have h := Option.some.inj h
          subst h
          exact t
        · rw [if_neg c7] at h
          by_cases c8 : y6.1 < a3
          · rw [if_pos c8] at h
            have h := Option.some.inj h
            subst h
            exact t
          · rw [if_neg c8] at h
            exact hq_fc_tr t (f_X11_way_L55_fw h)
def w_X11_reach : List (Nat × Option Nat) := []
theorem f_X11_reach_fw {n : Nat} {a1 : Int32} {s : hq_S} {y : (Int32 × hq_S)} (h : f_X11_reach n a1 s = some y) : hq_fc w_X11_reach s y.2 := by
  unfold f_X11_reach at h
  have t := hq_fc_rf w_X11_reach s
  obtain ⟨y1, hy1, h⟩ := hq_bind h
  have t := hq_fc_tr t (hq_fc_mono (by decide) (f_X11_isCorner_fw hy1))
  by_cases c2 : y1.1 = 0
  · rw [if_pos c2] at h
    have h := Option.some.inj h
    subst h
    exact t
  · rw [if_neg c2] at h
    obtain ⟨y3, hy3, h⟩ := hq_bind h
    have t := hq_fc_tr t (hq_fc_mono (by decide) (f_X8_reached_fw (by decide) hy3))
    have h := Option.some.inj h
    subst h
    exact t
def w_X11_parts : List (Nat × Option Nat) := []
theorem f_X11_parts_fw {n : Nat} {s : hq_S} {y : (Int32 × hq_S)} (h : f_X11_parts n s = some y) : hq_fc w_X11_parts s y.2 := by
  unfold f_X11_parts at h
  have t := hq_fc_rf w_X11_parts s
  obtain ⟨y1, hy1, h⟩ := hq_bind h
  have t := hq_fc_tr t (hq_fc_mono (by decide) (f_X8_howManyParts_fw (by decide) hy1))
  have h := Option.some.inj h
  subst h
  exact t
def w_X11_areGuards : List (Nat × Option Nat) := []
theorem f_X11_areGuards_fw {n : Nat} {a1 : Int32} {s : hq_S} {y : (Int32 × hq_S)} (h : f_X11_areGuards n a1 s = some y) : hq_fc w_X11_areGuards s y.2 := by
  unfold f_X11_areGuards at h
  have t := hq_fc_rf w_X11_areGuards s
  by_cases c1 : a1 < 0
  · rw [if_pos c1] at h
    have h := Option.some.inj h
    subst h
    exact t
  · rw [if_neg c1] at h
    have m2 : hq_isT (hq_gr s 0 2) := hq_ifT h
    skip
    rw [if_pos m2] at h
    by_cases c3 : a1 < ((1 : Int32) <<< ((hq_gi s (hq_gr s 0 2) 7) &&& 31))
    · rw [if_pos c3] at h
      have h := Option.some.inj h
      subst h
      exact t
    · rw [if_neg c3] at h
      have h := Option.some.inj h
      subst h
      exact t
def w_X11_rowOf : List (Nat × Option Nat) := []
theorem f_X11_rowOf_L4_B_fw {n : Nat} {a1 : Int32} {a2 : Int32} {a3 : Int32} {q4 : Int32 → Int32 → Int32 → hq_S → Option (Int32 × hq_S)} {s : hq_S} {y : (Int32 × hq_S)} (e4 : ∀ (a1 : Int32) (a2 : Int32) (a3 : Int32) (s : hq_S), q4 a1 a2 a3 s = some y → hq_fc w_X11_rowOf s y.2) (h : f_X11_rowOf_L4_B n q4 a1 a2 a3 s = some y) : hq_fc w_X11_rowOf s y.2 := by
  unfold f_X11_rowOf_L4_B at h
  have t := hq_fc_rf w_X11_rowOf s
  have m1 : hq_isT (hq_gr s 0 2) := hq_ifT h
  skip
  rw [if_pos m1] at h
  by_cases c2 : a3 < (hq_gi s (hq_gr s 0 2) 7)
  · rw [if_pos c2] at h
    obtain ⟨z3, hz3, h⟩ := hq_bind h
    exact hq_fc_tr t (e4 a1 z3 (a3 + (1 : Int32)) s h)
  · rw [if_neg c2] at h
    have h := Option.some.inj h
    subst h
    exact t
theorem f_X11_rowOf_L4_fw {n m : Nat} {a1 : Int32} {a2 : Int32} {a3 : Int32} {s : hq_S} {y : (Int32 × hq_S)} (h : f_X11_rowOf_L4 n m a1 a2 a3 s = some y) : hq_fc w_X11_rowOf s y.2 := by
  induction m generalizing a1 a2 a3 s with
  | zero => cases h
  | succ m ih => exact f_X11_rowOf_L4_B_fw (n := n) (a1 := a1) (a2 := a2) (a3 := a3) (q4 := f_X11_rowOf_L4 n m) (fun a1 a2 a3 s h => ih h) h
theorem f_X11_rowOf_fw {n : Nat} {a1 : Int32} {s : hq_S} {y : (Int32 × hq_S)} (h : f_X11_rowOf n a1 s = some y) : hq_fc w_X11_rowOf s y.2 := by
  unfold f_X11_rowOf at h
  have t := hq_fc_rf w_X11_rowOf s
  exact hq_fc_tr t (f_X11_rowOf_L4_fw h)
def w_X11_roundsOfChase : List (Nat × Option Nat) := [(152, some 0), (152, some 2), (152, some 3), (152, some 9), (153, none), (154, none), (155, none), (156, none), (157, none), (158, none)]
theorem f_X11_roundsOfChase_fw {n : Nat} {a1 : Int32} {a2 : Int32} {s : hq_S} {y : (Int32 × hq_S)} (h : f_X11_roundsOfChase n a1 a2 s = some y) : hq_fc w_X11_roundsOfChase s y.2 := by
  unfold f_X11_roundsOfChase at h
  have t := hq_fc_rf w_X11_roundsOfChase s
  by_cases c1 : a1 = 0
  · rw [if_pos c1] at h
    have h := Option.some.inj h
    subst h
    exact t
  · rw [if_neg c1] at h
    obtain ⟨y2, hy2, h⟩ := hq_bind h
    have t := hq_fc_tr t (hq_fc_mono (by decide) (f_J6_bitCount_0f7a4_fw hy2))
    obtain ⟨s3, hs3, h⟩ := hq_bind h
    have t := hq_fc_tr t (hq_fc_mono (by decide) (f_X0_solve_fw (by decide) hs3))
    obtain ⟨y4, hy4, h⟩ := hq_bind h
    have t := hq_fc_tr t (hq_fc_mono (by decide) (f_X11_rowOf_fw hy4))
    obtain ⟨y5, hy5, h⟩ := hq_bind h
    have t := hq_fc_tr t (hq_fc_mono (by decide) (f_X0_roundsFrom_fw hy5))
    have h := Option.some.inj h
    subst h
    exact t
def w_X11_chase : List (Nat × Option Nat) := [(152, some 0), (152, some 2), (152, some 3), (152, some 9), (153, none), (154, none), (155, none), (156, none), (157, none), (158, none)]
theorem f_X11_chase_fw {n : Nat} {a1 : Int32} {a2 : Int32} {s : hq_S} {y : (Int32 × hq_S)} (h : f_X11_chase n a1 a2 s = some y) : hq_fc w_X11_chase s y.2 := by
  unfold f_X11_chase at h
  have t := hq_fc_rf w_X11_chase s
  obtain ⟨y1, hy1, h⟩ := hq_bind h
  have t := hq_fc_tr t (hq_fc_mono (by decide) (f_X11_areGuards_fw hy1))
  by_cases c2 : y1.1 = 0
  · rw [if_pos c2] at h
    have h := Option.some.inj h
    subst h
    exact t
  · rw [if_neg c2] at h
    obtain ⟨y3, hy3, h⟩ := hq_bind h
    have t := hq_fc_tr t (hq_fc_mono (by decide) (f_X11_isCorner_fw hy3))
    by_cases c4 : y3.1 = 0
    · rw [if_pos c4] at h
      have h := Option.some.inj h
      subst h
      exact t
    · rw [if_neg c4] at h
      obtain ⟨y5, hy5, h⟩ := hq_bind h
      have t := hq_fc_tr t (hq_fc_mono (by decide) (f_X11_roundsOfChase_fw hy5))
      by_cases c6 : y5.1 = (2147483647 : Int32)
      · rw [if_pos c6] at h
        have h := Option.some.inj h
        subst h
        exact t
      · rw [if_neg c6] at h
        have h := Option.some.inj h
        subst h
        exact t
def w_X11_firstGo : List (Nat × Option Nat) := [(152, some 0), (152, some 2), (152, some 3), (152, some 9), (153, none), (154, none), (155, none), (156, none), (157, none), (158, none)]
theorem f_X11_firstGo_fw {n : Nat} {a1 : Int32} {a2 : Int32} {a3 : Int32} {s : hq_S} {y : (Int32 × hq_S)} (h : f_X11_firstGo n a1 a2 a3 s = some y) : hq_fc w_X11_firstGo s y.2 := by
  unfold f_X11_firstGo at h
  have t := hq_fc_rf w_X11_firstGo s
  obtain ⟨y1, hy1, h⟩ := hq_bind h
  have t := hq_fc_tr t (hq_fc_mono (by decide) (f_X11_areGuards_fw hy1))
  by_cases c2 : y1.1 = 0
  · rw [if_pos c2] at h
    have h := Option.some.inj h
    subst h
    exact t
  · rw [if_neg c2] at h
    obtain ⟨y3, hy3, h⟩ := hq_bind h
    have t := hq_fc_tr t (hq_fc_mono (by decide) (f_X11_isCorner_fw hy3))
    by_cases c4 : y3.1 = 0
    · rw [if_pos c4] at h
      have h := Option.some.inj h
      subst h
      exact t
    · rw [if_neg c4] at h
      obtain ⟨y5, hy5, h⟩ := hq_bind h
      have t := hq_fc_tr t (hq_fc_mono (by decide) (f_X11_isGuard_fw hy5))
      by_cases c6 : y5.1 = 0
      · rw [if_pos c6] at h
        have h := Option.some.inj h
        subst h
        exact t
      · rw [if_neg c6] at h
        obtain ⟨y7, hy7, h⟩ := hq_bind h
        have t := hq_fc_tr t (hq_fc_mono (by decide) (f_X11_roundsOfChase_fw hy7))
        by_cases c8 : y7.1 = 0
        · rw [if_pos c8] at h
          have h := Option.some.inj h
          subst h
          exact t
        · rw [if_neg c8] at h
          by_cases c9 : y7.1 = (2147483647 : Int32)
          · rw [if_pos c9] at h
            have h := Option.some.inj h
            subst h
            exact t
          · rw [if_neg c9] at h
            by_cases c10 : ((a1 >>> (a3 &&& 31)) &&& (1 : Int32)) = 0
            · rw [if_pos c10] at h
              have h := Option.some.inj h
              subst h
              exact t
            · rw [if_neg c10] at h
              obtain ⟨y11, hy11, h⟩ := hq_bind h
              have t := hq_fc_tr t (hq_fc_mono (by decide) (f_J6_bitCount_0f7a4_fw hy11))
              obtain ⟨y12, hy12, h⟩ := hq_bind h
              have t := hq_fc_tr t (hq_fc_mono (by decide) (f_X11_rowOf_fw hy12))
              obtain ⟨y13, hy13, h⟩ := hq_bind h
              have t := hq_fc_tr t (hq_fc_mono (by decide) (f_X0_firstRow_fw hy13))
              obtain ⟨y14, hy14, h⟩ := hq_bind h
              have t := hq_fc_tr t (hq_fc_mono (by decide) (f_X0_cornerIn_fw hy14))
              have h := Option.some.inj h
              subst h
              exact t
def w_X11_firstTurn : List (Nat × Option Nat) := []
theorem f_X11_firstTurn_L2_B_fw {n : Nat} {a1 : Int32} {a2 : Int32} {q2 : Int32 → Int32 → hq_S → Option (Int32 × hq_S)} {s : hq_S} {y : (Int32 × hq_S)} (e2 : ∀ (a1 : Int32) (a2 : Int32) (s : hq_S), q2 a1 a2 s = some y → hq_fc w_X11_firstTurn s y.2) (h : f_X11_firstTurn_L2_B n q2 a1 a2 s = some y) : hq_fc w_X11_firstTurn s y.2 := by
  unfold f_X11_firstTurn_L2_B at h
  have t := hq_fc_rf w_X11_firstTurn s
  by_cases c1 : a2 < a1
  · rw [if_pos c1] at h
    obtain ⟨x2, hx2, h⟩ := hq_bind h
    by_cases c3 : ((x2 >>> (a2 &&& 31)) &&& (1 : Int32)) = (1 : Int32)
    · rw [if_pos c3] at h
      have h := Option.some.inj h
      subst h
      exact t
    · rw [if_neg c3] at h
      exact hq_fc_tr t (e2 a1 (a2 + (1 : Int32)) s h)
  · rw [if_neg c1] at h
    have h := Option.some.inj h
    subst h
    exact t
theorem f_X11_firstTurn_L2_fw {n m : Nat} {a1 : Int32} {a2 : Int32} {s : hq_S} {y : (Int32 × hq_S)} (h : f_X11_firstTurn_L2 n m a1 a2 s = some y) : hq_fc w_X11_firstTurn s y.2 := by
  induction m generalizing a1 a2 s with
  | zero => cases h
  | succ m ih => exact f_X11_firstTurn_L2_B_fw (n := n) (a1 := a1) (a2 := a2) (q2 := f_X11_firstTurn_L2 n m) (fun a1 a2 s h => ih h) h
theorem f_X11_firstTurn_fw {n : Nat} {a1 : Int32} {s : hq_S} {y : (Int32 × hq_S)} (h : f_X11_firstTurn n a1 s = some y) : hq_fc w_X11_firstTurn s y.2 := by
  unfold f_X11_firstTurn at h
  have t := hq_fc_rf w_X11_firstTurn s
  exact hq_fc_tr t (f_X11_firstTurn_L2_fw h)
def w_X11_flee : List (Nat × Option Nat) := [(152, some 0), (152, some 2), (152, some 3), (152, some 9), (153, none), (154, none), (155, none), (156, none), (157, none), (158, none)]
theorem f_X11_flee_fw {n : Nat} {a1 : Int32} {a2 : Int32} {s : hq_S} {y : (Int32 × hq_S)} (h : f_X11_flee n a1 a2 s = some y) : hq_fc w_X11_flee s y.2 := by
  unfold f_X11_flee at h
  have t := hq_fc_rf w_X11_flee s
  obtain ⟨y1, hy1, h⟩ := hq_bind h
  have t := hq_fc_tr t (hq_fc_mono (by decide) (f_X11_areGuards_fw hy1))
  by_cases c2 : y1.1 = 0
  · rw [if_pos c2] at h
    have h := Option.some.inj h
    subst h
    exact t
  · rw [if_neg c2] at h
    obtain ⟨y3, hy3, h⟩ := hq_bind h
    have t := hq_fc_tr t (hq_fc_mono (by decide) (f_X11_isCorner_fw hy3))
    by_cases c4 : y3.1 = 0
    · rw [if_pos c4] at h
      have h := Option.some.inj h
      subst h
      exact t
    · rw [if_neg c4] at h
      obtain ⟨y5, hy5, h⟩ := hq_bind h
      have t := hq_fc_tr t (hq_fc_mono (by decide) (f_X11_roundsOfChase_fw hy5))
      by_cases c6 : y5.1 = 0
      · rw [if_pos c6] at h
        have h := Option.some.inj h
        subst h
        exact t
      · rw [if_neg c6] at h
        by_cases c7 : a1 = 0
        · rw [if_pos c7] at h
          obtain ⟨y10, hy10, h⟩ := hq_bind h
          have t := hq_fc_tr t (hq_fc_mono (by decide) (f_X11_firstTurn_fw hy10))
          have h := Option.some.inj h
          subst h
          exact t
        · rw [if_neg c7] at h
          obtain ⟨y8, hy8, h⟩ := hq_bind h
          have t := hq_fc_tr t (hq_fc_mono (by decide) (f_X11_rowOf_fw hy8))
          obtain ⟨y9, hy9, h⟩ := hq_bind h
          have t := hq_fc_tr t (hq_fc_mono (by decide) (f_X0_safest_fw hy9))
          have h := Option.some.inj h
          subst h
          exact t
def w_X11_takers : List (Nat × Option Nat) := [(152, some 0), (152, some 2), (152, some 3), (152, some 9), (152, some 10), (152, some 11), (153, none), (154, none), (155, none), (156, none), (157, none), (158, none)]
theorem f_X11_takers_fw {n : Nat} {s : hq_S} {y : (Int32 × hq_S)} (h : f_X11_takers n s = some y) : hq_fc w_X11_takers s y.2 := by
  unfold f_X11_takers at h
  have t := hq_fc_rf w_X11_takers s
  have m1 : hq_isT (hq_gr s 0 2) := hq_ifT h
  skip
  rw [if_pos m1] at h
  by_cases c2 : (hq_gi s (hq_gr s 0 2) 0) = 0
  · rw [if_pos c2] at h
    have h := Option.some.inj h
    subst h
    exact t
  · rw [if_neg c2] at h
    obtain ⟨s3, hs3, h⟩ := hq_bind h
    have t := hq_fc_tr t (hq_fc_mono (by decide) (f_X0_findPosts_fw (by decide) hs3))
    by_cases c4 : (hq_gi s3 152 10) = 0
    · rw [if_pos c4] at h
      have h := Option.some.inj h
      subst h
      exact t
    · rw [if_neg c4] at h
      have h := Option.some.inj h
      subst h
      exact t
def w_X11_post : List (Nat × Option Nat) := [(152, some 0), (152, some 2), (152, some 3), (152, some 9), (152, some 10), (152, some 11), (153, none), (154, none), (155, none), (156, none), (157, none), (158, none)]
theorem f_X11_post_fw {n : Nat} {a1 : Int32} {s : hq_S} {y : (Int32 × hq_S)} (h : f_X11_post n a1 s = some y) : hq_fc w_X11_post s y.2 := by
  unfold f_X11_post at h
  have t := hq_fc_rf w_X11_post s
  by_cases c1 : a1 < 0
  · rw [if_pos c1] at h
    have h := Option.some.inj h
    subst h
    exact t
  · rw [if_neg c1] at h
    obtain ⟨y2, hy2, h⟩ := hq_bind h
    have t := hq_fc_tr t (hq_fc_mono (by decide) (f_X11_takers_fw hy2))
    by_cases c3 : a1 < y2.1
    · rw [if_pos c3] at h
      obtain ⟨y4, hy4, h⟩ := hq_bind h
      have t := hq_fc_tr t (hq_fc_mono (by decide) (f_X0_cornerIn_fw hy4))
      have h := Option.some.inj h
      subst h
      exact t
    · rw [if_neg c3] at h
      have h := Option.some.inj h
      subst h
      exact t
def w_X11_wall : List (Nat × Option Nat) := []
theorem f_X11_wall_fw {n : Nat} {a1 : Int32} {a2 : Int32} {s : hq_S} {y : (Int32 × hq_S)} (h : f_X11_wall n a1 a2 s = some y) : hq_fc w_X11_wall s y.2 := by
  unfold f_X11_wall at h
  have t := hq_fc_rf w_X11_wall s
  obtain ⟨y1, hy1, h⟩ := hq_bind h
  have t := hq_fc_tr t (hq_fc_mono (by decide) (f_X11_isCorner_fw hy1))
  by_cases c2 : y1.1 = 0
  · rw [if_pos c2] at h
    have h := Option.some.inj h
    subst h
    exact t
  · rw [if_neg c2] at h
    obtain ⟨y3, hy3, h⟩ := hq_bind h
    have t := hq_fc_tr t (hq_fc_mono (by decide) (f_X11_isCorner_fw hy3))
    by_cases c4 : y3.1 = 0
    · rw [if_pos c4] at h
      have h := Option.some.inj h
      subst h
      exact t
    · rw [if_neg c4] at h
      by_cases c5 : a1 = a2
      · rw [if_pos c5] at h
        have h := Option.some.inj h
        subst h
        exact t
      · rw [if_neg c5] at h
        have m6 : hq_isT (hq_gr y3.2 0 2) := hq_ifT h
        skip
        rw [if_pos m6] at h
        obtain ⟨y7, hy7, h⟩ := hq_bind h
        have t := hq_fc_tr t (hq_fc_mono (by decide) (f_X10_fewestBars_fw m6 hy7))
        have h := Option.some.inj h
        subst h
        exact t
def w_X11_power : List (Nat × Option Nat) := []
theorem f_X11_power_L5_B_fw {n : Nat} {j0 : Int64} {a2 : Int32} {j3 : Int64} {a5 : Int32} {q5 : Int64 → Int32 → Int64 → Int32 → hq_S → Option (Int64 × hq_S)} {s : hq_S} {y : (Int64 × hq_S)} (e5 : ∀ (j0 : Int64) (a2 : Int32) (j3 : Int64) (a5 : Int32) (s : hq_S), q5 j0 a2 j3 a5 s = some y → hq_fc w_X11_power s y.2) (h : f_X11_power_L5_B n q5 j0 a2 j3 a5 s = some y) : hq_fc w_X11_power s y.2 := by
  unfold f_X11_power_L5_B at h
  have t := hq_fc_rf w_X11_power s
  by_cases c1 : a5 < a2
  · rw [if_pos c1] at h
    exact hq_fc_tr t (e5 j0 a2 (j3 * j0) (a5 + (1 : Int32)) s h)
  · rw [if_neg c1] at h
    have h := Option.some.inj h
    subst h
    exact t
theorem f_X11_power_L5_fw {n m : Nat} {j0 : Int64} {a2 : Int32} {j3 : Int64} {a5 : Int32} {s : hq_S} {y : (Int64 × hq_S)} (h : f_X11_power_L5 n m j0 a2 j3 a5 s = some y) : hq_fc w_X11_power s y.2 := by
  induction m generalizing j0 a2 j3 a5 s with
  | zero => cases h
  | succ m ih => exact f_X11_power_L5_B_fw (n := n) (j0 := j0) (a2 := a2) (j3 := j3) (a5 := a5) (q5 := f_X11_power_L5 n m) (fun j0 a2 j3 a5 s h => ih h) h
theorem f_X11_power_fw {n : Nat} {j0 : Int64} {a2 : Int32} {s : hq_S} {y : (Int64 × hq_S)} (h : f_X11_power n j0 a2 s = some y) : hq_fc w_X11_power s y.2 := by
  unfold f_X11_power at h
  have t := hq_fc_rf w_X11_power s
  exact hq_fc_tr t (f_X11_power_L5_fw h)
def w_X11_inLeastTerms : List (Nat × Option Nat) := []
theorem f_X11_inLeastTerms_J45_fw {n : Nat} {j0 : Int64} {j2 : Int64} {a4 : Int32} {j5 : Int64} {j7 : Int64} {a9 : Int32} {s : hq_S} {y : (Int64 × hq_S)} (h : f_X11_inLeastTerms_J45 n j0 j2 a4 j5 j7 a9 s = some y) : hq_fc w_X11_inLeastTerms s y.2 := by
  unfold f_X11_inLeastTerms_J45 at h
  have t := hq_fc_rf w_X11_inLeastTerms s
  by_cases c2 : (lg_cmp j5 (0 : Int64)) = 0
  · rw [if_pos c2] at h
    have h := Option.some.inj h
    subst h
    exact t
  · rw [if_neg c2] at h
    by_cases c3 : a4 = 0
    · rw [if_pos c3] at h
      obtain ⟨x5, hx5, h⟩ := hq_bind h
      have h := Option.some.inj h
      subst h
      exact t
    · rw [if_neg c3] at h
      obtain ⟨x4, hx4, h⟩ := hq_bind h
      have h := Option.some.inj h
      subst h
      exact t
theorem f_X11_inLeastTerms_L9_B_fw {n : Nat} {j0 : Int64} {j2 : Int64} {a4 : Int32} {j5 : Int64} {j7 : Int64} {a9 : Int32} {q9 : Int64 → Int64 → Int32 → Int64 → Int64 → Int32 → hq_S → Option (Int64 × hq_S)} {s : hq_S} {y : (Int64 × hq_S)} (e9 : ∀ (j0 : Int64) (j2 : Int64) (a4 : Int32) (j5 : Int64) (j7 : Int64) (a9 : Int32) (o10 : Option Value) (s : hq_S), q9 j0 j2 a4 j5 j7 a9 s = some y → hq_fc w_X11_inLeastTerms s y.2) (h : f_X11_inLeastTerms_L9_B n q9 j0 j2 a4 j5 j7 a9 s = some y) : hq_fc w_X11_inLeastTerms s y.2 := by
  unfold f_X11_inLeastTerms_L9_B at h
  have t := hq_fc_rf w_X11_inLeastTerms s
  by_cases c1 : a9 < (200 : Int32)
  · rw [if_pos c1] at h
    by_cases c6 : (lg_cmp j7 (0 : Int64)) = 0
    · rw [if_pos c6] at h
      exact hq_fc_tr t (f_X11_inLeastTerms_J45_fw h)
    · rw [if_neg c6] at h
      obtain ⟨x7, hx7, h⟩ := hq_bind h
      exact hq_fc_tr t (e9 j0 j2 a4 j7 x7 (a9 + (1 : Int32)) none s h)
  · rw [if_neg c1] at h
    exact hq_fc_tr t (f_X11_inLeastTerms_J45_fw h)
theorem f_X11_inLeastTerms_L9_fw {n m : Nat} {j0 : Int64} {j2 : Int64} {a4 : Int32} {j5 : Int64} {j7 : Int64} {a9 : Int32} {s : hq_S} {y : (Int64 × hq_S)} (h : f_X11_inLeastTerms_L9 n m j0 j2 a4 j5 j7 a9 s = some y) : hq_fc w_X11_inLeastTerms s y.2 := by
  induction m generalizing j0 j2 a4 j5 j7 a9 s with
  | zero => cases h
  | succ m ih => exact f_X11_inLeastTerms_L9_B_fw (n := n) (j0 := j0) (j2 := j2) (a4 := a4) (j5 := j5) (j7 := j7) (a9 := a9) (q9 := f_X11_inLeastTerms_L9 n m) (fun j0 j2 a4 j5 j7 a9 _ s h => ih h) h
theorem f_X11_inLeastTerms_fw {n : Nat} {j0 : Int64} {j2 : Int64} {a4 : Int32} {s : hq_S} {y : (Int64 × hq_S)} (h : f_X11_inLeastTerms n j0 j2 a4 s = some y) : hq_fc w_X11_inLeastTerms s y.2 := by
  unfold f_X11_inLeastTerms at h
  have t := hq_fc_rf w_X11_inLeastTerms s
  exact hq_fc_tr t (f_X11_inLeastTerms_L9_fw h)
def w_X11_thiefInRow : List (Nat × Option Nat) := []
theorem f_X11_thiefInRow_fw {n : Nat} {a1 : Int32} {a2 : Int32} {s : hq_S} {y : (Int32 × hq_S)} (h : f_X11_thiefInRow n a1 a2 s = some y) : hq_fc w_X11_thiefInRow s y.2 := by
  unfold f_X11_thiefInRow at h
  have t := hq_fc_rf w_X11_thiefInRow s
  have m1 : hq_isT (hq_gr s 0 2) := hq_ifT h
  skip
  rw [if_pos m1] at h
  obtain ⟨y2, hy2, h⟩ := hq_bind h
  have t := hq_fc_tr t (hq_fc_mono (by decide) (f_X11_power_fw hy2))
  by_cases c3 : y2.1.toInt32 = 0
  · rw [if_pos c3] at h
    have h := Option.some.inj h
    subst h
    exact t
  · rw [if_neg c3] at h
    obtain ⟨x4, hx4, h⟩ := hq_bind h
    obtain ⟨x5, hx5, h⟩ := hq_bind h
    have h := Option.some.inj h
    subst h
    exact t
def w_X11_matchScore : List (Nat × Option Nat) := []
theorem f_X11_matchScore_J118_fw {n : Nat} {a1 : Int32} {a2 : Int32} {a3 : Int32} {a4 : Int32} {a5 : Int32} {a6 : Int32} {q10 : Int32 → Int32 → Int32 → Int32 → Int32 → hq_S → Option (Int32 × hq_S)} {s : hq_S} {y : (Int32 × hq_S)} (e10 : ∀ (a1 : Int32) (a2 : Int32) (a3 : Int32) (a4 : Int32) (a5 : Int32) (o6 : Option Value) (s : hq_S), q10 a1 a2 a3 a4 a5 s = some y → hq_fc w_X11_matchScore s y.2) (h : f_X11_matchScore_J118 n q10 a1 a2 a3 a4 a5 a6 s = some y) : hq_fc w_X11_matchScore s y.2 := by
  unfold f_X11_matchScore_J118 at h
  have t := hq_fc_rf w_X11_matchScore s
  exact hq_fc_tr t (e10 a1 a2 a3 a4 (a5 + (1 : Int32)) none s h)
theorem f_X11_matchScore_L10_B_fw {n : Nat} {a1 : Int32} {a2 : Int32} {a3 : Int32} {a4 : Int32} {a5 : Int32} {q10 : Int32 → Int32 → Int32 → Int32 → Int32 → hq_S → Option (Int32 × hq_S)} {s : hq_S} {y : (Int32 × hq_S)} (e10 : ∀ (a1 : Int32) (a2 : Int32) (a3 : Int32) (a4 : Int32) (a5 : Int32) (o6 : Option Value) (s : hq_S), q10 a1 a2 a3 a4 a5 s = some y → hq_fc w_X11_matchScore s y.2) (h : f_X11_matchScore_L10_B n q10 a1 a2 a3 a4 a5 s = some y) : hq_fc w_X11_matchScore s y.2 := by
  unfold f_X11_matchScore_L10_B at h
  have t := hq_fc_rf w_X11_matchScore s
  have m1 : hq_isT (hq_gr s 0 2) := hq_ifT h
  skip
  rw [if_pos m1] at h
  by_cases c2 : a5 < (hq_gi s (hq_gr s 0 2) 7)
  · rw [if_pos c2] at h
    obtain ⟨y3, hy3, h⟩ := hq_bind h
    have t := hq_fc_tr t (hq_fc_mono (by decide) (f_X11_thiefInRow_fw hy3))
    by_cases c4 : y3.1 = (4 : Int32)
    · rw [if_pos c4] at h
      exact hq_fc_tr t (f_X11_matchScore_J118_fw e10 h)
    · rw [if_neg c4] at h
      have m5 : hq_isT (hq_gr y3.2 0 2) := hq_ifT h
      skip
      rw [if_pos m5] at h
      by_cases c6 : y3.1 < (hq_gi y3.2 (hq_gr y3.2 0 2) 11)
      · rw [if_pos c6] at h
        obtain ⟨y7, hy7, h⟩ := hq_bind h
        have t := hq_fc_tr t (hq_fc_mono (by decide) (f_X5_isFree_fw (by decide) hy7))
        by_cases c8 : y7.1 = 0
        · rw [if_pos c8] at h
          have h := Option.some.inj h
          subst h
          exact t
        · rw [if_neg c8] at h
          by_cases c9 : ((a2 >>> (y3.1 &&& 31)) &&& (1 : Int32)) = (1 : Int32)
          · rw [if_pos c9] at h
            have h := Option.some.inj h
            subst h
            exact t
          · rw [if_neg c9] at h
            obtain ⟨x10, hx10, h⟩ := hq_bind h
            obtain ⟨x11, hx11, h⟩ := hq_bind h
            obtain ⟨y12, hy12, h⟩ := hq_bind h
            have t := hq_fc_tr t (hq_fc_mono (by decide) (f_X8_lanesBetween_fw (by decide) hy12))
            exact hq_fc_tr t (f_X11_matchScore_J118_fw e10 h)
      · rw [if_neg c6] at h
        have h := Option.some.inj h
        subst h
        exact t
  · rw [if_neg c2] at h
    have h := Option.some.inj h
    subst h
    exact t
theorem f_X11_matchScore_L10_fw {n m : Nat} {a1 : Int32} {a2 : Int32} {a3 : Int32} {a4 : Int32} {a5 : Int32} {s : hq_S} {y : (Int32 × hq_S)} (h : f_X11_matchScore_L10 n m a1 a2 a3 a4 a5 s = some y) : hq_fc w_X11_matchScore s y.2 := by
  induction m generalizing a1 a2 a3 a4 a5 s with
  | zero => cases h
  | succ m ih => exact f_X11_matchScore_L10_B_fw (n := n) (a1 := a1) (a2 := a2) (a3 := a3) (a4 := a4) (a5 := a5) (q10 := f_X11_matchScore_L10 n m) (fun a1 a2 a3 a4 a5 _ s h => ih h) h
theorem f_X11_matchScore_fw {n : Nat} {a1 : Int32} {s : hq_S} {y : (Int32 × hq_S)} (h : f_X11_matchScore n a1 s = some y) : hq_fc w_X11_matchScore s y.2 := by
  unfold f_X11_matchScore at h
  have t := hq_fc_rf w_X11_matchScore s
  exact hq_fc_tr t (f_X11_matchScore_L10_fw h)
def w_X11_bestMatch : List (Nat × Option Nat) := []
theorem f_X11_bestMatch_L24_B_fw {n : Nat} {a1 : Int32} {a2 : Int32} {a3 : Int32} {a4 : Int32} {q24 : Int32 → Int32 → Int32 → Int32 → hq_S → Option (Int32 × hq_S)} {s : hq_S} {y : (Int32 × hq_S)} (e24 : ∀ (a1 : Int32) (a2 : Int32) (a3 : Int32) (a4 : Int32) (o5 : Option Value) (s : hq_S), q24 a1 a2 a3 a4 s = some y → hq_fc w_X11_bestMatch s y.2) (h : f_X11_bestMatch_L24_B n q24 a1 a2 a3 a4 s = some y) : hq_fc w_X11_bestMatch s y.2 := by
  unfold f_X11_bestMatch_L24_B at h
  have t := hq_fc_rf w_X11_bestMatch s
  by_cases c3 : a4 < a1
  · rw [if_pos c3] at h
    obtain ⟨y4, hy4, h⟩ := hq_bind h
    have t := hq_fc_tr t (hq_fc_mono (by decide) (f_X11_matchScore_fw hy4))
    obtain ⟨z5, hz5, h⟩ := hq_bind h
    exact hq_fc_tr t (e24 a1 z5.1 z5.2 (a4 + (1 : Int32)) none y4.2 h)
  · rw [if_neg c3] at h
    have h := Option.some.inj h
    subst h
    exact t
theorem f_X11_bestMatch_L24_fw {n m : Nat} {a1 : Int32} {a2 : Int32} {a3 : Int32} {a4 : Int32} {s : hq_S} {y : (Int32 × hq_S)} (h : f_X11_bestMatch_L24 n m a1 a2 a3 a4 s = some y) : hq_fc w_X11_bestMatch s y.2 := by
  induction m generalizing a1 a2 a3 a4 s with
  | zero => cases h
  | succ m ih => exact f_X11_bestMatch_L24_B_fw (n := n) (a1 := a1) (a2 := a2) (a3 := a3) (a4 := a4) (q24 := f_X11_bestMatch_L24 n m) (fun a1 a2 a3 a4 _ s h => ih h) h
theorem f_X11_bestMatch_fw {n : Nat} {s : hq_S} {y : (Int32 × hq_S)} (h : f_X11_bestMatch n s = some y) : hq_fc w_X11_bestMatch s y.2 := by
  unfold f_X11_bestMatch at h
  have t := hq_fc_rf w_X11_bestMatch s
  have m1 : hq_isT (hq_gr s 0 2) := hq_ifT h
  skip
  rw [if_pos m1] at h
  obtain ⟨y2, hy2, h⟩ := hq_bind h
  have t := hq_fc_tr t (hq_fc_mono (by decide) (f_X11_power_fw hy2))
  exact hq_fc_tr t (f_X11_bestMatch_L24_fw h)
def w_X11_match : List (Nat × Option Nat) := []
theorem f_X11_match_fw {n : Nat} {a1 : Int32} {s : hq_S} {y : (Int32 × hq_S)} (h : f_X11_match n a1 s = some y) : hq_fc w_X11_match s y.2 := by
  unfold f_X11_match at h
  have t := hq_fc_rf w_X11_match s
  by_cases c1 : a1 < 0
  · rw [if_pos c1] at h
    have h := Option.some.inj h
    subst h
    exact t
  · rw [if_neg c1] at h
    by_cases c2 : (4 : Int32) < a1
    · rw [if_pos c2] at h
      have h := Option.some.inj h
      subst h
      exact t
    · rw [if_neg c2] at h
      obtain ⟨y3, hy3, h⟩ := hq_bind h
      have t := hq_fc_tr t (hq_fc_mono (by decide) (f_X11_bestMatch_fw hy3))
      obtain ⟨y4, hy4, h⟩ := hq_bind h
      have t := hq_fc_tr t (hq_fc_mono (by decide) (f_X11_matchScore_fw hy4))
      by_cases c5 : a1 = (3 : Int32)
      · rw [if_pos c5] at h
        obtain ⟨x12, hx12, h⟩ := hq_bind h
        have h := Option.some.inj h
        subst h
        exact t
      · rw [if_neg c5] at h
        by_cases c6 : a1 = (4 : Int32)
        · rw [if_pos c6] at h
          obtain ⟨x11, hx11, h⟩ := hq_bind h
          have h := Option.some.inj h
          subst h
          exact t
        · rw [if_neg c6] at h
          have m7 : hq_isT (hq_gr y4.2 0 2) := hq_ifT h
          skip
          rw [if_pos m7] at h
          by_cases c8 : a1 < (hq_gi y4.2 (hq_gr y4.2 0 2) 7)
          · rw [if_pos c8] at h
            obtain ⟨y9, hy9, h⟩ := hq_bind h
            have t := hq_fc_tr t (hq_fc_mono (by decide) (f_X11_thiefInRow_fw hy9))
            by_cases c10 : y9.1 = (4 : Int32)
            · rw [if_pos c10] at h
              have h := Option.some.inj h
              subst h
              exact t
            · rw [if_neg c10] at h
              have h := Option.some.inj h
              subst h
              exact t
          · rw [if_neg c8] at h
            have h := Option.some.inj h
            subst h
            exact t
def w_X11_gain : List (Nat × Option Nat) := []
theorem f_X11_gain_fw {n : Nat} {a1 : Int32} {a2 : Int32} {a3 : Int32} {a4 : Int32} {s : hq_S} {y : (Int32 × hq_S)} (h : f_X11_gain n a1 a2 a3 a4 s = some y) : hq_fc w_X11_gain s y.2 := by
  unfold f_X11_gain at h
  have t := hq_fc_rf w_X11_gain s
  by_cases c1 : a3 = 0
  · rw [if_pos c1] at h
    by_cases c6 : a4 = 0
    · rw [if_pos c6] at h
      obtain ⟨x7, hx7, h⟩ := hq_bind h
      obtain ⟨x8, hx8, h⟩ := hq_bind h
      have h := Option.some.inj h
      subst h
      exact t
    · rw [if_neg c6] at h
      have h := Option.some.inj h
      subst h
      exact t
  · rw [if_neg c1] at h
    by_cases c2 : a4 = 0
    · rw [if_pos c2] at h
      have h := Option.some.inj h
      subst h
      exact t
    · rw [if_neg c2] at h
      obtain ⟨x3, hx3, h⟩ := hq_bind h
      obtain ⟨x4, hx4, h⟩ := hq_bind h
      obtain ⟨x5, hx5, h⟩ := hq_bind h
      have h := Option.some.inj h
      subst h
      exact t
def w_X11_isRest : List (Nat × Option Nat) := []
theorem f_X11_isRest_fw {n : Nat} {a1 : Int32} {a2 : Int32} {a3 : Int32} {s : hq_S} {y : (Int32 × hq_S)} (h : f_X11_isRest n a1 a2 a3 s = some y) : hq_fc w_X11_isRest s y.2 := by
  unfold f_X11_isRest at h
  have t := hq_fc_rf w_X11_isRest s
  obtain ⟨x1, hx1, h⟩ := hq_bind h
  obtain ⟨x2, hx2, h⟩ := hq_bind h
  obtain ⟨y3, hy3, h⟩ := hq_bind h
  have t := hq_fc_tr t (hq_fc_mono (by decide) (f_X11_gain_fw hy3))
  obtain ⟨y4, hy4, h⟩ := hq_bind h
  have t := hq_fc_tr t (hq_fc_mono (by decide) (f_X11_gain_fw hy4))
  by_cases c5 : y3.1 < y4.1
  · rw [if_pos c5] at h
    have h := Option.some.inj h
    subst h
    exact t
  · rw [if_neg c5] at h
    obtain ⟨y6, hy6, h⟩ := hq_bind h
    have t := hq_fc_tr t (hq_fc_mono (by decide) (f_X11_gain_fw hy6))
    obtain ⟨y7, hy7, h⟩ := hq_bind h
    have t := hq_fc_tr t (hq_fc_mono (by decide) (f_X11_gain_fw hy7))
    by_cases c8 : y6.1 < y7.1
    · rw [if_pos c8] at h
      have h := Option.some.inj h
      subst h
      exact t
    · rw [if_neg c8] at h
      have h := Option.some.inj h
      subst h
      exact t
def w_X11_rests : List (Nat × Option Nat) := []
theorem f_X11_rests_L28_B_fw {n : Nat} {a1 : Int32} {a2 : Int32} {a3 : Int32} {a4 : Int32} {q28 : Int32 → Int32 → Int32 → Int32 → hq_S → Option (Int32 × hq_S)} {s : hq_S} {y : (Int32 × hq_S)} (e28 : ∀ (a1 : Int32) (a2 : Int32) (a3 : Int32) (a4 : Int32) (s : hq_S), q28 a1 a2 a3 a4 s = some y → hq_fc w_X11_rests s y.2) (h : f_X11_rests_L28_B n q28 a1 a2 a3 a4 s = some y) : hq_fc w_X11_rests s y.2 := by
  unfold f_X11_rests_L28_B at h
  have t := hq_fc_rf w_X11_rests s
  by_cases c6 : a4 < (4 : Int32)
  · rw [if_pos c6] at h
    obtain ⟨y7, hy7, h⟩ := hq_bind h
    have t := hq_fc_tr t (hq_fc_mono (by decide) (f_X11_isRest_fw hy7))
    obtain ⟨z8, hz8, h⟩ := hq_bind h
    exact hq_fc_tr t (e28 a1 a2 (a3 + z8) (a4 + (1 : Int32)) y7.2 h)
  · rw [if_neg c6] at h
    have h := Option.some.inj h
    subst h
    exact t
theorem f_X11_rests_L28_fw {n m : Nat} {a1 : Int32} {a2 : Int32} {a3 : Int32} {a4 : Int32} {s : hq_S} {y : (Int32 × hq_S)} (h : f_X11_rests_L28 n m a1 a2 a3 a4 s = some y) : hq_fc w_X11_rests s y.2 := by
  induction m generalizing a1 a2 a3 a4 s with
  | zero => cases h
  | succ m ih => exact f_X11_rests_L28_B_fw (n := n) (a1 := a1) (a2 := a2) (a3 := a3) (a4 := a4) (q28 := f_X11_rests_L28 n m) (fun a1 a2 a3 a4 s h => ih h) h
theorem f_X11_rests_fw {n : Nat} {a1 : Int32} {a2 : Int32} {s : hq_S} {y : (Int32 × hq_S)} (h : f_X11_rests n a1 a2 s = some y) : hq_fc w_X11_rests s y.2 := by
  unfold f_X11_rests at h
  have t := hq_fc_rf w_X11_rests s
  obtain ⟨y1, hy1, h⟩ := hq_bind h
  have t := hq_fc_tr t (hq_fc_mono (by decide) (f_X11_isThief_fw hy1))
  by_cases c2 : y1.1 = 0
  · rw [if_pos c2] at h
    have h := Option.some.inj h
    subst h
    exact t
  · rw [if_neg c2] at h
    obtain ⟨y3, hy3, h⟩ := hq_bind h
    have t := hq_fc_tr t (hq_fc_mono (by decide) (f_X11_isThief_fw hy3))
    by_cases c4 : y3.1 = 0
    · rw [if_pos c4] at h
      have h := Option.some.inj h
      subst h
      exact t
    · rw [if_neg c4] at h
      by_cases c5 : a1 = a2
      · rw [if_pos c5] at h
        have h := Option.some.inj h
        subst h
        exact t
      · rw [if_neg c5] at h
        exact hq_fc_tr t (f_X11_rests_L28_fw h)
def w_X11_rest : List (Nat × Option Nat) := []
theorem f_X11_rest_J71_fw {n : Nat} {a1 : Int32} {a2 : Int32} {a3 : Int32} {a4 : Int32} {a5 : Int32} {q33 : Int32 → Int32 → Int32 → Int32 → Int32 → hq_S → Option (Int32 × hq_S)} {s : hq_S} {y : (Int32 × hq_S)} (e33 : ∀ (a1 : Int32) (a2 : Int32) (a3 : Int32) (a4 : Int32) (a5 : Int32) (s : hq_S), q33 a1 a2 a3 a4 a5 s = some y → hq_fc w_X11_rest s y.2) (h : f_X11_rest_J71 n q33 a1 a2 a3 a4 a5 s = some y) : hq_fc w_X11_rest s y.2 := by
  unfold f_X11_rest_J71 at h
  have t := hq_fc_rf w_X11_rest s
  exact hq_fc_tr t (e33 a1 a2 a3 a4 (a5 + (1 : Int32)) s h)
theorem f_X11_rest_L33_B_fw {n : Nat} {a1 : Int32} {a2 : Int32} {a3 : Int32} {a4 : Int32} {a5 : Int32} {q33 : Int32 → Int32 → Int32 → Int32 → Int32 → hq_S → Option (Int32 × hq_S)} {s : hq_S} {y : (Int32 × hq_S)} (e33 : ∀ (a1 : Int32) (a2 : Int32) (a3 : Int32) (a4 : Int32) (a5 : Int32) (s : hq_S), q33 a1 a2 a3 a4 a5 s = some y → hq_fc w_X11_rest s y.2) (h : f_X11_rest_L33_B n q33 a1 a2 a3 a4 a5 s = some y) : hq_fc w_X11_rest s y.2 := by
  unfold f_X11_rest_L33_B at h
  have t := hq_fc_rf w_X11_rest s
  by_cases c7 : a5 < (4 : Int32)
  · rw [if_pos c7] at h
    obtain ⟨y8, hy8, h⟩ := hq_bind h
    have t := hq_fc_tr t (hq_fc_mono (by decide) (f_X11_isRest_fw hy8))
    by_cases c9 : y8.1 = 0
    · rw [if_pos c9] at h
      exact hq_fc_tr t (f_X11_rest_J71_fw e33 h)
    · rw [if_neg c9] at h
      by_cases c10 : a4 = 0
      · rw [if_pos c10] at h
        obtain ⟨x11, hx11, h⟩ := hq_bind h
        obtain ⟨x12, hx12, h⟩ := hq_bind h
        have h := Option.some.inj h
        subst h
        exact t
      · rw [if_neg c10] at h
        exact hq_fc_tr t (f_X11_rest_J71_fw e33 h)
  · rw [if_neg c7] at h
    have h := Option.some.inj h
    subst h
    exact t
theorem f_X11_rest_L33_fw {n m : Nat} {a1 : Int32} {a2 : Int32} {a3 : Int32} {a4 : Int32} {a5 : Int32} {s : hq_S} {y : (Int32 × hq_S)} (h : f_X11_rest_L33 n m a1 a2 a3 a4 a5 s = some y) : hq_fc w_X11_rest s y.2 := by
  induction m generalizing a1 a2 a3 a4 a5 s with
  | zero => cases h
  | succ m ih => exact f_X11_rest_L33_B_fw (n := n) (a1 := a1) (a2 := a2) (a3 := a3) (a4 := a4) (a5 := a5) (q33 := f_X11_rest_L33 n m) (fun a1 a2 a3 a4 a5 s h => ih h) h
theorem f_X11_rest_fw {n : Nat} {a1 : Int32} {a2 : Int32} {a3 : Int32} {s : hq_S} {y : (Int32 × hq_S)} (h : f_X11_rest n a1 a2 a3 s = some y) : hq_fc w_X11_rest s y.2 := by
  unfold f_X11_rest at h
  have t := hq_fc_rf w_X11_rest s
  obtain ⟨y1, hy1, h⟩ := hq_bind h
  have t := hq_fc_tr t (hq_fc_mono (by decide) (f_X11_isThief_fw hy1))
  by_cases c2 : y1.1 = 0
  · rw [if_pos c2] at h
    have h := Option.some.inj h
    subst h
    exact t
  · rw [if_neg c2] at h
    obtain ⟨y3, hy3, h⟩ := hq_bind h
    have t := hq_fc_tr t (hq_fc_mono (by decide) (f_X11_isThief_fw hy3))
    by_cases c4 : y3.1 = 0
    · rw [if_pos c4] at h
      have h := Option.some.inj h
      subst h
      exact t
    · rw [if_neg c4] at h
      by_cases c5 : a1 = a2
      · rw [if_pos c5] at h
        have h := Option.some.inj h
        subst h
        exact t
      · rw [if_neg c5] at h
        by_cases c6 : a3 < 0
        · rw [if_pos c6] at h
          have h := Option.some.inj h
          subst h
          exact t
        · rw [if_neg c6] at h
          exact hq_fc_tr t (f_X11_rest_L33_fw h)
def w_X11_holds : List (Nat × Option Nat) := []
theorem f_X11_holds_J19_fw {n : Nat} {a1 : Int32} {a2 : Int32} {s : hq_S} {y : (Int64 × hq_S)} (h : f_X11_holds_J19 n a1 a2 s = some y) : hq_fc w_X11_holds s y.2 := by
  unfold f_X11_holds_J19 at h
  have t := hq_fc_rf w_X11_holds s
  have h := Option.some.inj h
  subst h
  exact t
theorem f_X11_holds_fw {n : Nat} {a1 : Int32} {a2 : Int32} {s : hq_S} {y : (Int64 × hq_S)} (h : f_X11_holds n a1 a2 s = some y) : hq_fc w_X11_holds s y.2 := by
  unfold f_X11_holds at h
  have t := hq_fc_rf w_X11_holds s
  by_cases c1 : a1 < 0
  · rw [if_pos c1] at h
    exact hq_fc_tr t (f_X11_holds_J19_fw h)
  · rw [if_neg c1] at h
    by_cases c2 : (6 : Int32) < a1
    · rw [if_pos c2] at h
      exact hq_fc_tr t (f_X11_holds_J19_fw h)
    · rw [if_neg c2] at h
      by_cases c3 : a2 < 0
      · rw [if_pos c3] at h
        exact hq_fc_tr t (f_X11_holds_J19_fw h)
      · rw [if_neg c3] at h
        by_cases c4 : (1 : Int32) < a2
        · rw [if_pos c4] at h
          exact hq_fc_tr t (f_X11_holds_J19_fw h)
        · rw [if_neg c4] at h
          have m5 : hq_isT (hq_gr s 0 2) := hq_ifT h
          skip
          rw [if_pos m5] at h
          obtain ⟨y6, hy6, h⟩ := hq_bind h
          have t := hq_fc_tr t (hq_fc_mono (by decide) (f_X11_power_fw hy6))
          obtain ⟨y7, hy7, h⟩ := hq_bind h
          have t := hq_fc_tr t (hq_fc_mono (by decide) (f_X11_power_fw hy7))
          obtain ⟨y8, hy8, h⟩ := hq_bind h
          have t := hq_fc_tr t (hq_fc_mono (by decide) (f_X11_inLeastTerms_fw hy8))
          have h := Option.some.inj h
          subst h
          exact t
def w_X11_see : List (Nat × Option Nat) := [(163, some 0), (164, none), (165, none), (166, none), (167, none), (168, none)]
theorem f_X11_see_fw {n : Nat} {a1 : Int32} {a2 : Int32} {a3 : Int32} {a4 : Int32} {s : hq_S} {y : (Int32 × hq_S)} (h : f_X11_see n a1 a2 a3 a4 s = some y) : hq_fc w_X11_see s y.2 := by
  unfold f_X11_see at h
  have t := hq_fc_rf w_X11_see s
  by_cases c1 : a1 < (1 : Int32)
  · rw [if_pos c1] at h
    have h := Option.some.inj h
    subst h
    exact t
  · rw [if_neg c1] at h
    by_cases c2 : (60 : Int32) < a1
    · rw [if_pos c2] at h
      have h := Option.some.inj h
      subst h
      exact t
    · rw [if_neg c2] at h
      obtain ⟨y3, hy3, h⟩ := hq_bind h
      have t := hq_fc_tr t (hq_fc_mono (by decide) (f_X11_isThief_fw hy3))
      by_cases c4 : y3.1 = 0
      · rw [if_pos c4] at h
        have h := Option.some.inj h
        subst h
        exact t
      · rw [if_neg c4] at h
        obtain ⟨y5, hy5, h⟩ := hq_bind h
        have t := hq_fc_tr t (hq_fc_mono (by decide) (f_X11_isCorner_fw hy5))
        by_cases c6 : y5.1 = 0
        · rw [if_pos c6] at h
          have h := Option.some.inj h
          subst h
          exact t
        · rw [if_neg c6] at h
          obtain ⟨y7, hy7, h⟩ := hq_bind h
          have t := hq_fc_tr t (hq_fc_mono (by decide) (f_X2_addSight_fw hy7))
          have h := Option.some.inj h
          subst h
          exact t
def w_X11_strike : List (Nat × Option Nat) := [(163, some 0), (168, none)]
theorem f_X11_strike_fw {n : Nat} {a1 : Int32} {s : hq_S} {y : (Int32 × hq_S)} (h : f_X11_strike n a1 s = some y) : hq_fc w_X11_strike s y.2 := by
  unfold f_X11_strike at h
  have t := hq_fc_rf w_X11_strike s
  obtain ⟨y1, hy1, h⟩ := hq_bind h
  have t := hq_fc_tr t (hq_fc_mono (by decide) (f_X2_addStrike_fw hy1))
  have h := Option.some.inj h
  subst h
  exact t
def w_X11_known : List (Nat × Option Nat) := [(163, some 1)]
theorem f_X11_known_fw {n : Nat} {a1 : Int32} {s : hq_S} {y : (Int32 × hq_S)} (h : f_X11_known n a1 s = some y) : hq_fc w_X11_known s y.2 := by
  unfold f_X11_known at h
  have t := hq_fc_rf w_X11_known s
  obtain ⟨y1, hy1, h⟩ := hq_bind h
  have t := hq_fc_tr t (hq_fc_mono (by decide) (f_X2_knowBy_fw hy1))
  have hr : mm_rfit (mm_ret mc_X11_known) y1.1 = true := hq_ifT h
  rw [if_pos hr] at h
  have h := Option.some.inj h
  subst h
  exact t
def w_X11_count : List (Nat × Option Nat) := []
theorem f_X11_count_fw {n : Nat} {a1 : Int32} {s : hq_S} {y : (Int32 × hq_S)} (h : f_X11_count n a1 s = some y) : hq_fc w_X11_count s y.2 := by
  unfold f_X11_count at h
  have t := hq_fc_rf w_X11_count s
  by_cases c1 : a1 = (0 : Int32)
  · rw [if_pos c1] at h
    have m2 : hq_isT (hq_gr s 0 2) := hq_ifT h
    skip
    rw [if_pos m2] at h
    have h := Option.some.inj h
    subst h
    exact t
  rw [if_neg c1] at h
  by_cases c3 : a1 = (1 : Int32)
  · rw [if_pos c3] at h
    have m4 : hq_isT (hq_gr s 0 2) := hq_ifT h
    skip
    rw [if_pos m4] at h
    have h := Option.some.inj h
    subst h
    exact t
  rw [if_neg c3] at h
  by_cases c5 : a1 = (2 : Int32)
  · rw [if_pos c5] at h
    have m6 : hq_isT (hq_gr s 0 2) := hq_ifT h
    skip
    rw [if_pos m6] at h
    have h := Option.some.inj h
    subst h
    exact t
  rw [if_neg c5] at h
  by_cases c7 : a1 = (3 : Int32)
  · rw [if_pos c7] at h
    have m8 : hq_isT (hq_gr s 0 2) := hq_ifT h
    skip
    rw [if_pos m8] at h
    have h := Option.some.inj h
    subst h
    exact t
  rw [if_neg c7] at h
  by_cases c9 : a1 = (4 : Int32)
  · rw [if_pos c9] at h
    have m10 : hq_isT (hq_gr s 0 2) := hq_ifT h
    skip
    rw [if_pos m10] at h
    have h := Option.some.inj h
    subst h
    exact t
  rw [if_neg c9] at h
  by_cases c11 : a1 = (5 : Int32)
  · rw [if_pos c11] at h
    have h := Option.some.inj h
    subst h
    exact t
  rw [if_neg c11] at h
  by_cases c12 : a1 = (6 : Int32)
  · rw [if_pos c12] at h
    have m13 : hq_isT (hq_gr s 0 2) := hq_ifT h
    skip
    rw [if_pos m13] at h
    obtain ⟨y14, hy14, h⟩ := hq_bind h
    have t := hq_fc_tr t (hq_fc_mono (by decide) (f_X5_howManyCaught_fw (by decide) hy14))
    have h := Option.some.inj h
    subst h
    exact t
  rw [if_neg c12] at h
  by_cases c15 : a1 = (7 : Int32)
  · rw [if_pos c15] at h
    have m16 : hq_isT (hq_gr s 0 2) := hq_ifT h
    skip
    rw [if_pos m16] at h
    obtain ⟨y17, hy17, h⟩ := hq_bind h
    have t := hq_fc_tr t (hq_fc_mono (by decide) (f_X5_lootOfAll_fw (by decide) hy17))
    have h := Option.some.inj h
    subst h
    exact t
  rw [if_neg c15] at h
  by_cases c18 : a1 = (8 : Int32)
  · rw [if_pos c18] at h
    have m19 : hq_isT (hq_gr s 0 2) := hq_ifT h
    skip
    rw [if_pos m19] at h
    obtain ⟨y20, hy20, h⟩ := hq_bind h
    have t := hq_fc_tr t (hq_fc_mono (by decide) (f_X5_hadByAll_fw (by decide) hy20))
    have h := Option.some.inj h
    subst h
    exact t
  rw [if_neg c18] at h
  by_cases c21 : a1 = (9 : Int32)
  · rw [if_pos c21] at h
    obtain ⟨y22, hy22, h⟩ := hq_bind h
    have t := hq_fc_tr t (hq_fc_mono (by decide) (f_J6_bitCount_0f7a4_fw hy22))
    have h := Option.some.inj h
    subst h
    exact t
  rw [if_neg c21] at h
  by_cases c23 : a1 = (10 : Int32)
  · rw [if_pos c23] at h
    have h := Option.some.inj h
    subst h
    exact t
  rw [if_neg c23] at h
  by_cases c24 : a1 = (11 : Int32)
  · rw [if_pos c24] at h
    obtain ⟨y25, hy25, h⟩ := hq_bind h
    have t := hq_fc_tr t (hq_fc_mono (by decide) (f_X2_knownBy_fw hy25))
    have h := Option.some.inj h
    subst h
    exact t
  rw [if_neg c24] at h
  by_cases c26 : a1 = (12 : Int32)
  · rw [if_pos c26] at h
    have h := Option.some.inj h
    subst h
    exact t
  rw [if_neg c26] at h
  have h := Option.some.inj h
  subst h
  exact t
def w_X12_thrown : List (Nat × Option Nat) := []
theorem f_X12_thrown_fw {n : Nat} {s : hq_S} {y : (Int32 × hq_S)} (h : f_X12_thrown n s = some y) : hq_fc w_X12_thrown s y.2 := by
  unfold f_X12_thrown at h
  have t := hq_fc_rf w_X12_thrown s
  have h := Option.some.inj h
  subst h
  exact t
def w_X12_feed : List (Nat × Option Nat) := [(174, some 0), (174, some 2), (175, none)]
theorem f_X12_feed_L20_B_fw {n : Nat} {a1 : Int32} {a2 : Int32} {a3 : Int32} {a4 : Int32} {a5 : Int32} {a6 : Int32} {q20 : Int32 → Int32 → Int32 → Int32 → Int32 → Int32 → hq_S → Option (Int32 × hq_S)} {s : hq_S} {y : (Int32 × hq_S)} (e20 : ∀ (a1 : Int32) (a2 : Int32) (a3 : Int32) (a4 : Int32) (a5 : Int32) (a6 : Int32) (o7 : Option Value) (s : hq_S), q20 a1 a2 a3 a4 a5 a6 s = some y → hq_fc w_X12_feed s y.2) (h : f_X12_feed_L20_B n q20 a1 a2 a3 a4 a5 a6 s = some y) : hq_fc w_X12_feed s y.2 := by
  unfold f_X12_feed_L20_B at h
  have t := hq_fc_rf w_X12_feed s
  by_cases c3 : a6 < (20 : Int32)
  · rw [if_pos c3] at h
    obtain ⟨z5, hz5, h⟩ := hq_bind h
    obtain ⟨x10, hx10, h⟩ := hq_bind h
    obtain ⟨s11, hs11, h⟩ := hq_bind h
    have t := hq_fc_tr t (hq_fc_st hs11 (by decide))
    exact hq_fc_tr t (e20 a1 a2 a3 a4 a5 (a6 + (1 : Int32)) none s11 h)
  · rw [if_neg c3] at h
    obtain ⟨s4, hs4, h⟩ := hq_bind h
    have t := hq_fc_tr t (hq_fc_pi hs4 (by decide))
    have h := Option.some.inj h
    subst h
    exact t
theorem f_X12_feed_L20_fw {n m : Nat} {a1 : Int32} {a2 : Int32} {a3 : Int32} {a4 : Int32} {a5 : Int32} {a6 : Int32} {s : hq_S} {y : (Int32 × hq_S)} (h : f_X12_feed_L20 n m a1 a2 a3 a4 a5 a6 s = some y) : hq_fc w_X12_feed s y.2 := by
  induction m generalizing a1 a2 a3 a4 a5 a6 s with
  | zero => cases h
  | succ m ih => exact f_X12_feed_L20_B_fw (n := n) (a1 := a1) (a2 := a2) (a3 := a3) (a4 := a4) (a5 := a5) (a6 := a6) (q20 := f_X12_feed_L20 n m) (fun a1 a2 a3 a4 a5 a6 _ s h => ih h) h
theorem f_X12_feed_fw {n : Nat} {a1 : Int32} {a2 : Int32} {a3 : Int32} {a4 : Int32} {a5 : Int32} {s : hq_S} {y : (Int32 × hq_S)} (h : f_X12_feed n a1 a2 a3 a4 a5 s = some y) : hq_fc w_X12_feed s y.2 := by
  unfold f_X12_feed at h
  have t := hq_fc_rf w_X12_feed s
  obtain ⟨s1, hs1, h⟩ := hq_bind h
  have t := hq_fc_tr t (hq_fc_pi hs1 (by decide))
  by_cases c2 : (680 : Int32) < (hq_gi s1 174 2)
  · rw [if_pos c2] at h
    have h := Option.some.inj h
    subst h
    exact t
  · rw [if_neg c2] at h
    exact hq_fc_tr t (f_X12_feed_L20_fw h)
def w_X12_here : List (Nat × Option Nat) := []
theorem f_X12_here_fw {n : Nat} {s : hq_S} {y : (Int32 × hq_S)} (h : f_X12_here n s = some y) : hq_fc w_X12_here s y.2 := by
  unfold f_X12_here at h
  have t := hq_fc_rf w_X12_here s
  by_cases c1 : (hq_gi s 174 24) < (hq_gi s 174 23)
  · rw [if_pos c1] at h
    obtain ⟨x2, hx2, h⟩ := hq_bind h
    have h := Option.some.inj h
    subst h
    exact t
  · rw [if_neg c1] at h
    have h := Option.some.inj h
    subst h
    exact t
def w_X12_isSmall : List (Nat × Option Nat) := []
theorem f_X12_isSmall_fw {n : Nat} {a0 : Int32} {s : hq_S} {y : (Int32 × hq_S)} (h : f_X12_isSmall n a0 s = some y) : hq_fc w_X12_isSmall s y.2 := by
  unfold f_X12_isSmall at h
  have t := hq_fc_rf w_X12_isSmall s
  by_cases c1 : a0 < (97 : Int32)
  · rw [if_pos c1] at h
    have h := Option.some.inj h
    subst h
    exact t
  · rw [if_neg c1] at h
    by_cases c2 : (122 : Int32) < a0
    · rw [if_pos c2] at h
      have h := Option.some.inj h
      subst h
      exact t
    · rw [if_neg c2] at h
      have h := Option.some.inj h
      subst h
      exact t
def w_X12_isDigit : List (Nat × Option Nat) := []
theorem f_X12_isDigit_fw {n : Nat} {a0 : Int32} {s : hq_S} {y : (Int32 × hq_S)} (h : f_X12_isDigit n a0 s = some y) : hq_fc w_X12_isDigit s y.2 := by
  unfold f_X12_isDigit at h
  have t := hq_fc_rf w_X12_isDigit s
  by_cases c1 : a0 < (48 : Int32)
  · rw [if_pos c1] at h
    have h := Option.some.inj h
    subst h
    exact t
  · rw [if_neg c1] at h
    by_cases c2 : (57 : Int32) < a0
    · rw [if_pos c2] at h
      have h := Option.some.inj h
      subst h
      exact t
    · rw [if_neg c2] at h
      have h := Option.some.inj h
      subst h
      exact t
def w_X12_word : List (Nat × Option Nat) := []
theorem f_X12_word_L97_B_fw {n : Nat} {a1 : Int32} {a2 : Int32} {a3 : Int32} {q4 : Int32 → Int32 → hq_S → Option (Int32 × hq_S)} {q97 : Int32 → Int32 → Int32 → hq_S → Option (Int32 × hq_S)} {s : hq_S} {y : (Int32 × hq_S)} (e4 : ∀ (a1 : Int32) (a2 : Int32) (o3 : Option Value) (s : hq_S), q4 a1 a2 s = some y → hq_fc w_X12_word s y.2) (e97 : ∀ (a1 : Int32) (a2 : Int32) (a3 : Int32) (s : hq_S), q97 a1 a2 a3 s = some y → hq_fc w_X12_word s y.2) (h : f_X12_word_L97_B n q4 q97 a1 a2 a3 s = some y) : hq_fc w_X12_word s y.2 := by
  unfold f_X12_word_L97_B at h
  have t := hq_fc_rf w_X12_word s
  obtain ⟨x6, hx6, h⟩ := hq_bind h
  by_cases c7 : x6 = (32 : Int32)
  · rw [if_pos c7] at h
    exact hq_fc_tr t (e4 (a1 + (1 : Int32)) (a2 + (1 : Int32)) none s h)
  · rw [if_neg c7] at h
    exact hq_fc_tr t (e97 a1 (a2 + (1 : Int32)) a3 s h)
theorem f_X12_word_L97_fw {n m : Nat} {a1 : Int32} {a2 : Int32} {a3 : Int32} {q4 : Int32 → Int32 → hq_S → Option (Int32 × hq_S)} {s : hq_S} {y : (Int32 × hq_S)} (e4 : ∀ (a1 : Int32) (a2 : Int32) (o3 : Option Value) (s : hq_S), q4 a1 a2 s = some y → hq_fc w_X12_word s y.2) (h : f_X12_word_L97 n q4 m a1 a2 a3 s = some y) : hq_fc w_X12_word s y.2 := by
  induction m generalizing a1 a2 a3 s with
  | zero => cases h
  | succ m ih => exact f_X12_word_L97_B_fw (n := n) (a1 := a1) (a2 := a2) (a3 := a3) (q97 := f_X12_word_L97 n q4 m) e4 (fun a1 a2 a3 s h => ih h) h
theorem f_X12_word_J69_fw {n : Nat} {a1 : Int32} {a2 : Int32} {a3 : Int32} {q4 : Int32 → Int32 → hq_S → Option (Int32 × hq_S)} {s : hq_S} {y : (Int32 × hq_S)} (e4 : ∀ (a1 : Int32) (a2 : Int32) (o3 : Option Value) (s : hq_S), q4 a1 a2 s = some y → hq_fc w_X12_word s y.2) (h : f_X12_word_J69 n q4 a1 a2 a3 s = some y) : hq_fc w_X12_word s y.2 := by
  unfold f_X12_word_J69 at h
  have t := hq_fc_rf w_X12_word s
  obtain ⟨x4, hx4, h⟩ := hq_bind h
  by_cases c5 : x4 = (32 : Int32)
  · rw [if_pos c5] at h
    by_cases c8 : ((hq_gi s 174 25) + a3) = (hq_gi s 174 24)
    · rw [if_pos c8] at h
      have h := Option.some.inj h
      subst h
      exact t
    · rw [if_neg c8] at h
      exact hq_fc_tr t (f_X12_word_L97_fw e4 h)
  · rw [if_neg c5] at h
    exact hq_fc_tr t (f_X12_word_L97_fw e4 h)
theorem f_X12_word_L15_B_fw {n : Nat} {a1 : Int32} {a2 : Int32} {a3 : Int32} {q4 : Int32 → Int32 → hq_S → Option (Int32 × hq_S)} {q15 : Int32 → Int32 → Int32 → hq_S → Option (Int32 × hq_S)} {s : hq_S} {y : (Int32 × hq_S)} (e4 : ∀ (a1 : Int32) (a2 : Int32) (o3 : Option Value) (s : hq_S), q4 a1 a2 s = some y → hq_fc w_X12_word s y.2) (e15 : ∀ (a1 : Int32) (a2 : Int32) (a3 : Int32) (s : hq_S), q15 a1 a2 a3 s = some y → hq_fc w_X12_word s y.2) (h : f_X12_word_L15_B n q4 q15 a1 a2 a3 s = some y) : hq_fc w_X12_word s y.2 := by
  unfold f_X12_word_L15_B at h
  have t := hq_fc_rf w_X12_word s
  obtain ⟨x2, hx2, h⟩ := hq_bind h
  by_cases c3 : x2 = (32 : Int32)
  · rw [if_pos c3] at h
    exact hq_fc_tr t (f_X12_word_J69_fw e4 h)
  · rw [if_neg c3] at h
    by_cases c9 : ((hq_gi s 174 25) + a3) < (hq_gi s 174 24)
    · rw [if_pos c9] at h
      obtain ⟨x10, hx10, h⟩ := hq_bind h
      obtain ⟨x11, hx11, h⟩ := hq_bind h
      by_cases c12 : x10 = x11
      · rw [if_pos c12] at h
        exact hq_fc_tr t (e15 a1 a2 (a3 + (1 : Int32)) s h)
      · rw [if_neg c12] at h
        exact hq_fc_tr t (f_X12_word_J69_fw e4 h)
    · rw [if_neg c9] at h
      exact hq_fc_tr t (f_X12_word_J69_fw e4 h)
theorem f_X12_word_L15_fw {n m : Nat} {a1 : Int32} {a2 : Int32} {a3 : Int32} {q4 : Int32 → Int32 → hq_S → Option (Int32 × hq_S)} {s : hq_S} {y : (Int32 × hq_S)} (e4 : ∀ (a1 : Int32) (a2 : Int32) (o3 : Option Value) (s : hq_S), q4 a1 a2 s = some y → hq_fc w_X12_word s y.2) (h : f_X12_word_L15 n q4 m a1 a2 a3 s = some y) : hq_fc w_X12_word s y.2 := by
  induction m generalizing a1 a2 a3 s with
  | zero => cases h
  | succ m ih => exact f_X12_word_L15_B_fw (n := n) (a1 := a1) (a2 := a2) (a3 := a3) (q15 := f_X12_word_L15 n q4 m) e4 (fun a1 a2 a3 s h => ih h) h
theorem f_X12_word_L4_B_fw {n : Nat} {a1 : Int32} {a2 : Int32} {q4 : Int32 → Int32 → hq_S → Option (Int32 × hq_S)} {s : hq_S} {y : (Int32 × hq_S)} (e4 : ∀ (a1 : Int32) (a2 : Int32) (o3 : Option Value) (s : hq_S), q4 a1 a2 s = some y → hq_fc w_X12_word s y.2) (h : f_X12_word_L4_B n q4 a1 a2 s = some y) : hq_fc w_X12_word s y.2 := by
  unfold f_X12_word_L4_B at h
  have t := hq_fc_rf w_X12_word s
  by_cases c1 : a2 < (112 : Int32)
  · rw [if_pos c1] at h
    exact hq_fc_tr t (f_X12_word_L15_fw e4 h)
  · rw [if_neg c1] at h
    have h := Option.some.inj h
    subst h
    exact t
theorem f_X12_word_L4_fw {n m : Nat} {a1 : Int32} {a2 : Int32} {s : hq_S} {y : (Int32 × hq_S)} (h : f_X12_word_L4 n m a1 a2 s = some y) : hq_fc w_X12_word s y.2 := by
  induction m generalizing a1 a2 s with
  | zero => cases h
  | succ m ih => exact f_X12_word_L4_B_fw (n := n) (a1 := a1) (a2 := a2) (q4 := f_X12_word_L4 n m) (fun a1 a2 _ s h => ih h) h
theorem f_X12_word_fw {n : Nat} {s : hq_S} {y : (Int32 × hq_S)} (h : f_X12_word n s = some y) : hq_fc w_X12_word s y.2 := by
  unfold f_X12_word at h
  have t := hq_fc_rf w_X12_word s
  exact hq_fc_tr t (f_X12_word_L4_fw h)
