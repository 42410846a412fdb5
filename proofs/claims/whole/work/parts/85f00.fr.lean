/-! FRAMES: the class's functions keep the reference's cells (174 on), the reference's functions the class's (below 174) -/
def hq_fx (s t : hq_S) : Prop := ∀ k, 174 ≤ k → ∀ i, hq_gi t k i = hq_gi s k i ∧ hq_gj t k i = hq_gj s k i ∧ hq_gr t k i = hq_gr s k i
theorem hq_fx_rf (s : hq_S) : hq_fx s s := fun _ _ _ => ⟨rfl, rfl, rfl⟩
theorem hq_fx_tr {s t u : hq_S} (h : hq_fx s t) (g : hq_fx t u) : hq_fx s u := fun k hk i => ⟨(g k hk i).1.trans (h k hk i).1, (g k hk i).2.1.trans (h k hk i).2.1, (g k hk i).2.2.trans (h k hk i).2.2⟩
theorem hq_fx_si {s : hq_S} {k j : Nat} {x : Int32} (hk : k < 174) : hq_fx s (hq_si s k j x) := fun k' hk' i => ⟨if_neg fun q => by omega, rfl, rfl⟩
theorem hq_fx_sj {s : hq_S} {k j : Nat} {x : Int64} (hk : k < 174) : hq_fx s (hq_sj s k j x) := fun k' hk' i => ⟨rfl, if_neg fun q => by omega, rfl⟩
theorem hq_fx_sr {s : hq_S} {k j : Nat} {x : Nat} (hk : k < 174) : hq_fx s (hq_sr s k j x) := fun k' hk' i => ⟨rfl, rfl, if_neg fun q => by omega⟩
theorem hq_fx_st {s s1 : hq_S} {k L : Nat} {i x : Int32} (h : hq_st s k L i x = some s1) (hk : k < 174) : hq_fx s s1 := by
  unfold hq_st at h
  rcases mm_bif h with ⟨-, h⟩ | ⟨-, h⟩
  · cases h; exact hq_fx_si hk
  · cases h
theorem hq_fx_stj {s s1 : hq_S} {k L : Nat} {i : Int32} {x : Int64} (h : hq_stj s k L i x = some s1) (hk : k < 174) : hq_fx s s1 := by
  unfold hq_stj at h
  rcases mm_bif h with ⟨-, h⟩ | ⟨-, h⟩
  · cases h; exact hq_fx_sj hk
  · cases h
theorem hq_fx_stiA {s s1 : hq_S} {k : Nat} {i x : Int32} (h : hq_stiA s k i x = some s1) (hk : k < 174) : hq_fx s s1 := by
  obtain ⟨L, -, h⟩ := hq_bind h
  exact hq_fx_st h hk
theorem hq_fx_stjA {s s1 : hq_S} {k : Nat} {i : Int32} {x : Int64} (h : hq_stjA s k i x = some s1) (hk : k < 174) : hq_fx s s1 := by
  obtain ⟨L, -, h⟩ := hq_bind h
  exact hq_fx_stj h hk
theorem hq_fx_pi {s s1 : hq_S} {k b c : Nat} {x : Int32} (h : hq_pi s k b c x = some s1) (hk : k < 174) : hq_fx s s1 := by
  unfold hq_pi at h
  rcases mm_bif h with ⟨-, h⟩ | ⟨-, h⟩
  · cases h; exact hq_fx_si hk
  · cases h
theorem hq_fx_pj {s s1 : hq_S} {k b : Nat} {x : Int64} (h : hq_pj s k b x = some s1) (hk : k < 174) : hq_fx s s1 := by
  cases h; exact hq_fx_sj hk
theorem hq_fx_pr {s s1 : hq_S} {k b x : Nat} (h : hq_pr s k b x = some s1) (hk : k < 174) : hq_fx s s1 := by
  cases h; exact hq_fx_sr hk
theorem hq_fx_cp {s s1 : hq_S} {k Lk j Lj : Nat} {sp dp n : Int32} (h : hq_cp s k Lk j Lj sp dp n = some s1) (hk : j < 174) : hq_fx s s1 := by
  unfold hq_cp at h
  rcases mm_bif h with ⟨-, h⟩ | ⟨-, h⟩
  · cases h
    exact fun k' hk' i => ⟨if_neg fun q => by omega, rfl, rfl⟩
  · cases h
theorem hq_fx_cpj {s s1 : hq_S} {k Lk j Lj : Nat} {sp dp n : Int32} (h : hq_cpj s k Lk j Lj sp dp n = some s1) (hk : j < 174) : hq_fx s s1 := by
  unfold hq_cpj at h
  rcases mm_bif h with ⟨-, h⟩ | ⟨-, h⟩
  · cases h
    exact fun k' hk' i => ⟨rfl, if_neg fun q => by omega, rfl⟩
  · cases h
def hq_fm (s t : hq_S) : Prop := ∀ k, k < 174 → ∀ i, hq_gi t k i = hq_gi s k i ∧ hq_gj t k i = hq_gj s k i ∧ hq_gr t k i = hq_gr s k i
theorem hq_fm_rf (s : hq_S) : hq_fm s s := fun _ _ _ => ⟨rfl, rfl, rfl⟩
theorem hq_fm_tr {s t u : hq_S} (h : hq_fm s t) (g : hq_fm t u) : hq_fm s u := fun k hk i => ⟨(g k hk i).1.trans (h k hk i).1, (g k hk i).2.1.trans (h k hk i).2.1, (g k hk i).2.2.trans (h k hk i).2.2⟩
theorem hq_fm_si {s : hq_S} {k j : Nat} {x : Int32} (hk : 174 ≤ k) : hq_fm s (hq_si s k j x) := fun k' hk' i => ⟨if_neg fun q => by omega, rfl, rfl⟩
theorem hq_fm_sj {s : hq_S} {k j : Nat} {x : Int64} (hk : 174 ≤ k) : hq_fm s (hq_sj s k j x) := fun k' hk' i => ⟨rfl, if_neg fun q => by omega, rfl⟩
theorem hq_fm_sr {s : hq_S} {k j : Nat} {x : Nat} (hk : 174 ≤ k) : hq_fm s (hq_sr s k j x) := fun k' hk' i => ⟨rfl, rfl, if_neg fun q => by omega⟩
theorem hq_fm_st {s s1 : hq_S} {k L : Nat} {i x : Int32} (h : hq_st s k L i x = some s1) (hk : 174 ≤ k) : hq_fm s s1 := by
  unfold hq_st at h
  rcases mm_bif h with ⟨-, h⟩ | ⟨-, h⟩
  · cases h; exact hq_fm_si hk
  · cases h
theorem hq_fm_stj {s s1 : hq_S} {k L : Nat} {i : Int32} {x : Int64} (h : hq_stj s k L i x = some s1) (hk : 174 ≤ k) : hq_fm s s1 := by
  unfold hq_stj at h
  rcases mm_bif h with ⟨-, h⟩ | ⟨-, h⟩
  · cases h; exact hq_fm_sj hk
  · cases h
theorem hq_fm_stiA {s s1 : hq_S} {k : Nat} {i x : Int32} (h : hq_stiA s k i x = some s1) (hk : 174 ≤ k) : hq_fm s s1 := by
  obtain ⟨L, -, h⟩ := hq_bind h
  exact hq_fm_st h hk
theorem hq_fm_stjA {s s1 : hq_S} {k : Nat} {i : Int32} {x : Int64} (h : hq_stjA s k i x = some s1) (hk : 174 ≤ k) : hq_fm s s1 := by
  obtain ⟨L, -, h⟩ := hq_bind h
  exact hq_fm_stj h hk
theorem hq_fm_pi {s s1 : hq_S} {k b c : Nat} {x : Int32} (h : hq_pi s k b c x = some s1) (hk : 174 ≤ k) : hq_fm s s1 := by
  unfold hq_pi at h
  rcases mm_bif h with ⟨-, h⟩ | ⟨-, h⟩
  · cases h; exact hq_fm_si hk
  · cases h
theorem hq_fm_pj {s s1 : hq_S} {k b : Nat} {x : Int64} (h : hq_pj s k b x = some s1) (hk : 174 ≤ k) : hq_fm s s1 := by
  cases h; exact hq_fm_sj hk
theorem hq_fm_pr {s s1 : hq_S} {k b x : Nat} (h : hq_pr s k b x = some s1) (hk : 174 ≤ k) : hq_fm s s1 := by
  cases h; exact hq_fm_sr hk
theorem hq_fm_cp {s s1 : hq_S} {k Lk j Lj : Nat} {sp dp n : Int32} (h : hq_cp s k Lk j Lj sp dp n = some s1) (hk : 174 ≤ j) : hq_fm s s1 := by
  unfold hq_cp at h
  rcases mm_bif h with ⟨-, h⟩ | ⟨-, h⟩
  · cases h
    exact fun k' hk' i => ⟨if_neg fun q => by omega, rfl, rfl⟩
  · cases h
theorem hq_fm_cpj {s s1 : hq_S} {k Lk j Lj : Nat} {sp dp n : Int32} (h : hq_cpj s k Lk j Lj sp dp n = some s1) (hk : 174 ≤ j) : hq_fm s s1 := by
  unfold hq_cpj at h
  rcases mm_bif h with ⟨-, h⟩ | ⟨-, h⟩
  · cases h
    exact fun k' hk' i => ⟨rfl, if_neg fun q => by omega, rfl⟩
  · cases h
theorem hq_leT {k : Nat} (h : hq_isT k) : k ≤ 25 := by
  unfold hq_isT at h
  omega
theorem hq_leN {k : Nat} (h : hq_isN k) : k ≤ 94 := by
  unfold hq_isN at h
  omega
theorem hq_leL {k : Nat} (h : hq_isL k) : k ≤ 34 := by
  unfold hq_isL at h
  omega
theorem hq_leS {k : Nat} (h : hq_isS k) : k ≤ 108 := by
  unfold hq_isS at h
  omega
theorem f_X0_fitTo_L19_B_fr {n : Nat} {k1 : Nat} {a2 : Int32} {a3 : Int32} {q19 : Nat → Int32 → Int32 → hq_S → Option hq_S} {s : hq_S} {y : hq_S} (e19 : ∀ (k1 : Nat) (a2 : Int32) (a3 : Int32) (o4 : Option Value) (s : hq_S) (m1_ : hq_isS k1), q19 k1 a2 a3 s = some y → hq_fx s y) (m1_ : hq_isS k1) (h : f_X0_fitTo_L19_B n q19 k1 a2 a3 s = some y) : hq_fx s y := by
  unfold f_X0_fitTo_L19_B at h
  have bm1_ := hq_leS m1_
  have t := hq_fx_rf s
  by_cases c3 : a3 < (10 : Int32)
  · rw [if_pos c3] at h
    obtain ⟨x8, hx8, h⟩ := hq_bind h
    obtain ⟨x9, hx9, h⟩ := hq_bind h
    obtain ⟨z10, hz10, h⟩ := hq_bind h
    obtain ⟨s12, hs12, h⟩ := hq_bind h
    have t := hq_fx_tr t (hq_fx_st hs12 (by first | decide | omega))
    exact hq_fx_tr t (e19 k1 (a2 &&& z10) (a3 + (1 : Int32)) none s12 m1_ h)
  · rw [if_neg c3] at h
    obtain ⟨s4, hs4, h⟩ := hq_bind h
    have t := hq_fx_tr t (hq_fx_pi hs4 (by first | decide | omega))
    by_cases c5 : a2 = 0
    · rw [if_pos c5] at h
      obtain ⟨s6, hs6, h⟩ := hq_bind h
      have t := hq_fx_tr t (hq_fx_pi hs6 (by first | decide | omega))
      obtain ⟨s7, hs7, h⟩ := hq_bind h
      have t := hq_fx_tr t (hq_fx_pi hs7 (by first | decide | omega))
      have h := Option.some.inj h
      subst h
      exact t
    · rw [if_neg c5] at h
      have h := Option.some.inj h
      subst h
      exact t
theorem f_X0_fitTo_L19_fr {n m : Nat} {k1 : Nat} {a2 : Int32} {a3 : Int32} {s : hq_S} {y : hq_S} (m1_ : hq_isS k1) (h : f_X0_fitTo_L19 n m k1 a2 a3 s = some y) : hq_fx s y := by
  induction m generalizing k1 a2 a3 s with
  | zero => cases h
  | succ m ih => exact f_X0_fitTo_L19_B_fr (n := n) (k1 := k1) (a2 := a2) (a3 := a3) (q19 := f_X0_fitTo_L19 n m) (fun k1 a2 a3 _ s m1_ h => ih m1_ h) m1_ h
theorem f_X0_fitTo_fr {n : Nat} {k1 : Nat} {s : hq_S} {y : hq_S} (m1_ : hq_isS k1) (h : f_X0_fitTo n k1 s = some y) : hq_fx s y := by
  unfold f_X0_fitTo at h
  have bm1_ := hq_leS m1_
  have t := hq_fx_rf s
  obtain ⟨z1, hz1, h⟩ := hq_bind h
  exact hq_fx_tr t (f_X0_fitTo_L19_fr m1_ h)
theorem f_X0_noteLost_L13_B_fr {n : Nat} {a1 : Int32} {a2 : Int32} {a3 : Int32} {a4 : Int32} {q13 : Int32 → Int32 → Int32 → Int32 → hq_S → Option hq_S} {s : hq_S} {y : hq_S} (e13 : ∀ (a1 : Int32) (a2 : Int32) (a3 : Int32) (a4 : Int32) (s : hq_S), q13 a1 a2 a3 a4 s = some y → hq_fx s y) (h : f_X0_noteLost_L13_B n q13 a1 a2 a3 a4 s = some y) : hq_fx s y := by
  unfold f_X0_noteLost_L13_B at h
  have t := hq_fx_rf s
  by_cases c3 : a4 < (hq_gi s 152 0)
  · rw [if_pos c3] at h
    obtain ⟨z4, hz4, h⟩ := hq_bind h
    have t : hq_fx s z4 := by
      clear h
      have h := hz4
      by_cases c5 : ((a2 >>> (a4 &&& 31)) &&& (1 : Int32)) = (1 : Int32)
      · rw [if_pos c5] at h
        obtain ⟨s6, hs6, h⟩ := hq_bind h
        have t := hq_fx_tr t (hq_fx_st hs6 (by first | decide | omega))
        cases h
        exact t
      · rw [if_neg c5] at h
        cases h
        exact t
    exact hq_fx_tr t (e13 a1 a2 a3 (a4 + (1 : Int32)) z4 h)
  · rw [if_neg c3] at h
    have h := Option.some.inj h
    subst h
    exact t
theorem f_X0_noteLost_L13_fr {n m : Nat} {a1 : Int32} {a2 : Int32} {a3 : Int32} {a4 : Int32} {s : hq_S} {y : hq_S} (h : f_X0_noteLost_L13 n m a1 a2 a3 a4 s = some y) : hq_fx s y := by
  induction m generalizing a1 a2 a3 a4 s with
  | zero => cases h
  | succ m ih => exact f_X0_noteLost_L13_B_fr (n := n) (a1 := a1) (a2 := a2) (a3 := a3) (a4 := a4) (q13 := f_X0_noteLost_L13 n m) (fun a1 a2 a3 a4 s h => ih h) h
theorem f_X0_noteLost_fr {n : Nat} {a1 : Int32} {a2 : Int32} {a3 : Int32} {s : hq_S} {y : hq_S} (h : f_X0_noteLost n a1 a2 a3 s = some y) : hq_fx s y := by
  unfold f_X0_noteLost at h
  have t := hq_fx_rf s
  obtain ⟨x1, hx1, h⟩ := hq_bind h
  obtain ⟨s2, hs2, h⟩ := hq_bind h
  have t := hq_fx_tr t (hq_fx_st hs2 (by first | decide | omega))
  exact hq_fx_tr t (f_X0_noteLost_L13_fr h)
theorem f_X0_layOut_L125_B_fr {n : Nat} {a1 : Int32} {q125 : Int32 → hq_S → Option hq_S} {s : hq_S} {y : hq_S} (e125 : ∀ (a1 : Int32) (o2 : Option Value) (s : hq_S), q125 a1 s = some y → hq_fx s y) (h : f_X0_layOut_L125_B n q125 a1 s = some y) : hq_fx s y := by
  unfold f_X0_layOut_L125_B at h
  have t := hq_fx_rf s
  by_cases c5 : a1 < (hq_gi s 152 3)
  · rw [if_pos c5] at h
    obtain ⟨s6, hs6, h⟩ := hq_bind h
    have t := hq_fx_tr t (hq_fx_st hs6 (by first | decide | omega))
    obtain ⟨x7, hx7, h⟩ := hq_bind h
    obtain ⟨s8, hs8, h⟩ := hq_bind h
    have t := hq_fx_tr t (f_X0_noteLost_fr hs8)
    exact hq_fx_tr t (e125 (a1 + (1 : Int32)) none s8 h)
  · rw [if_neg c5] at h
    have h := Option.some.inj h
    subst h
    exact t
theorem f_X0_layOut_L125_fr {n m : Nat} {a1 : Int32} {s : hq_S} {y : hq_S} (h : f_X0_layOut_L125 n m a1 s = some y) : hq_fx s y := by
  induction m generalizing a1 s with
  | zero => cases h
  | succ m ih => exact f_X0_layOut_L125_B_fr (n := n) (a1 := a1) (q125 := f_X0_layOut_L125 n m) (fun a1 _ s h => ih h) h
theorem f_X0_layOut_L96_B_fr {n : Nat} {a1 : Int32} {q96 : Int32 → hq_S → Option hq_S} {s : hq_S} {y : hq_S} (e96 : ∀ (a1 : Int32) (o2 : Option Value) (s : hq_S), q96 a1 s = some y → hq_fx s y) (h : f_X0_layOut_L96_B n q96 a1 s = some y) : hq_fx s y := by
  unfold f_X0_layOut_L96_B at h
  have t := hq_fx_rf s
  by_cases c4 : a1 < ((hq_gi s 152 3) * (hq_gi s 152 0))
  · rw [if_pos c4] at h
    obtain ⟨s9, hs9, h⟩ := hq_bind h
    have t := hq_fx_tr t (hq_fx_st hs9 (by first | decide | omega))
    exact hq_fx_tr t (e96 (a1 + (1 : Int32)) none s9 h)
  · rw [if_neg c4] at h
    exact hq_fx_tr t (f_X0_layOut_L125_fr h)
theorem f_X0_layOut_L96_fr {n m : Nat} {a1 : Int32} {s : hq_S} {y : hq_S} (h : f_X0_layOut_L96 n m a1 s = some y) : hq_fx s y := by
  induction m generalizing a1 s with
  | zero => cases h
  | succ m ih => exact f_X0_layOut_L96_B_fr (n := n) (a1 := a1) (q96 := f_X0_layOut_L96 n m) (fun a1 _ s h => ih h) h
theorem f_X0_layOut_J94_fr {n : Nat} {a1 : Int32} {s : hq_S} {y : hq_S} (h : f_X0_layOut_J94 n a1 s = some y) : hq_fx s y := by
  unfold f_X0_layOut_J94 at h
  have t := hq_fx_rf s
  exact hq_fx_tr t (f_X0_layOut_L96_fr h)
theorem f_X0_layOut_L39_B_fr {n : Nat} {a1 : Int32} {a2 : Int32} {q14 : Int32 → hq_S → Option hq_S} {q39 : Int32 → Int32 → hq_S → Option hq_S} {s : hq_S} {y : hq_S} (e14 : ∀ (a1 : Int32) (o2 : Option Value) (s : hq_S), q14 a1 s = some y → hq_fx s y) (e39 : ∀ (a1 : Int32) (a2 : Int32) (s : hq_S), q39 a1 a2 s = some y → hq_fx s y) (h : f_X0_layOut_L39_B n q14 q39 a1 a2 s = some y) : hq_fx s y := by
  unfold f_X0_layOut_L39_B at h
  have t := hq_fx_rf s
  by_cases c11 : a2 < 0
  · rw [if_pos c11] at h
    obtain ⟨s12, hs12, h⟩ := hq_bind h
    have t := hq_fx_tr t (hq_fx_pi hs12 (by first | decide | omega))
    exact hq_fx_tr t (e14 (a1 + (1 : Int32)) none s12 h)
  · rw [if_neg c11] at h
    obtain ⟨x13, hx13, h⟩ := hq_bind h
    obtain ⟨x14, hx14, h⟩ := hq_bind h
    obtain ⟨x15, hx15, h⟩ := hq_bind h
    obtain ⟨s16, hs16, h⟩ := hq_bind h
    have t := hq_fx_tr t (hq_fx_st hs16 (by first | decide | omega))
    exact hq_fx_tr t (e39 a1 (a2 + Int32.ofInt (-1)) s16 h)
theorem f_X0_layOut_L39_fr {n m : Nat} {a1 : Int32} {a2 : Int32} {q14 : Int32 → hq_S → Option hq_S} {s : hq_S} {y : hq_S} (e14 : ∀ (a1 : Int32) (o2 : Option Value) (s : hq_S), q14 a1 s = some y → hq_fx s y) (h : f_X0_layOut_L39 n q14 m a1 a2 s = some y) : hq_fx s y := by
  induction m generalizing a1 a2 s with
  | zero => cases h
  | succ m ih => exact f_X0_layOut_L39_B_fr (n := n) (a1 := a1) (a2 := a2) (q39 := f_X0_layOut_L39 n q14 m) e14 (fun a1 a2 s h => ih h) h
theorem f_X0_layOut_L14_B_fr {n : Nat} {a1 : Int32} {q14 : Int32 → hq_S → Option hq_S} {s : hq_S} {y : hq_S} (e14 : ∀ (a1 : Int32) (o2 : Option Value) (s : hq_S), q14 a1 s = some y → hq_fx s y) (h : f_X0_layOut_L14_B n q14 a1 s = some y) : hq_fx s y := by
  unfold f_X0_layOut_L14_B at h
  have t := hq_fx_rf s
  by_cases c3 : a1 < (hq_gi s 152 2)
  · rw [if_pos c3] at h
    by_cases c10 : a1 < (3 : Int32)
    · rw [if_pos c10] at h
      exact hq_fx_tr t (f_X0_layOut_L39_fr e14 h)
    · rw [if_neg c10] at h
      exact hq_fx_tr t (f_X0_layOut_J94_fr h)
  · rw [if_neg c3] at h
    exact hq_fx_tr t (f_X0_layOut_J94_fr h)
theorem f_X0_layOut_L14_fr {n m : Nat} {a1 : Int32} {s : hq_S} {y : hq_S} (h : f_X0_layOut_L14 n m a1 s = some y) : hq_fx s y := by
  induction m generalizing a1 s with
  | zero => cases h
  | succ m ih => exact f_X0_layOut_L14_B_fr (n := n) (a1 := a1) (q14 := f_X0_layOut_L14 n m) (fun a1 _ s h => ih h) h
theorem f_X0_layOut_fr {n : Nat} {s : hq_S} {y : hq_S} (h : f_X0_layOut n s = some y) : hq_fx s y := by
  unfold f_X0_layOut at h
  have t := hq_fx_rf s
  obtain ⟨s1, hs1, h⟩ := hq_bind h
  have t := hq_fx_tr t (hq_fx_pi hs1 (by first | decide | omega))
  obtain ⟨s2, hs2, h⟩ := hq_bind h
  have t := hq_fx_tr t (hq_fx_st hs2 (by first | decide | omega))
  exact hq_fx_tr t (f_X0_layOut_L14_fr h)
theorem f_X0_lostOnTurn_L9_B_fr {n : Nat} {a1 : Int32} {a2 : Int32} {a3 : Int32} {q9 : Int32 → Int32 → Int32 → hq_S → Option (Int32 × hq_S)} {s : hq_S} {y : (Int32 × hq_S)} (e9 : ∀ (a1 : Int32) (a2 : Int32) (a3 : Int32) (s : hq_S), q9 a1 a2 a3 s = some y → hq_fx s y.2) (h : f_X0_lostOnTurn_L9_B n q9 a1 a2 a3 s = some y) : hq_fx s y.2 := by
  unfold f_X0_lostOnTurn_L9_B at h
  have t := hq_fx_rf s
  by_cases c2 : a3 < (hq_gi s 152 0)
  · rw [if_pos c2] at h
    obtain ⟨x3, hx3, h⟩ := hq_bind h
    obtain ⟨x4, hx4, h⟩ := hq_bind h
    obtain ⟨z5, hz5, h⟩ := hq_bind h
    exact hq_fx_tr t (e9 a1 (a2 ||| z5) (a3 + (1 : Int32)) s h)
  · rw [if_neg c2] at h
    have h := Option.some.inj h
    subst h
    exact t
theorem f_X0_lostOnTurn_L9_fr {n m : Nat} {a1 : Int32} {a2 : Int32} {a3 : Int32} {s : hq_S} {y : (Int32 × hq_S)} (h : f_X0_lostOnTurn_L9 n m a1 a2 a3 s = some y) : hq_fx s y.2 := by
  induction m generalizing a1 a2 a3 s with
  | zero => cases h
  | succ m ih => exact f_X0_lostOnTurn_L9_B_fr (n := n) (a1 := a1) (a2 := a2) (a3 := a3) (q9 := f_X0_lostOnTurn_L9 n m) (fun a1 a2 a3 s h => ih h) h
theorem f_X0_lostOnTurn_fr {n : Nat} {a1 : Int32} {s : hq_S} {y : (Int32 × hq_S)} (h : f_X0_lostOnTurn n a1 s = some y) : hq_fx s y.2 := by
  unfold f_X0_lostOnTurn at h
  have t := hq_fx_rf s
  obtain ⟨x1, hx1, h⟩ := hq_bind h
  exact hq_fx_tr t (f_X0_lostOnTurn_L9_fr h)
theorem f_X0_spreadOneGuard_L39_B_fr {n : Nat} {a1 : Int32} {a2 : Int32} {a3 : Int32} {a4 : Int32} {a5 : Int32} {q16 : Int32 → Int32 → hq_S → Option hq_S} {q39 : Int32 → Int32 → Int32 → Int32 → Int32 → hq_S → Option hq_S} {s : hq_S} {y : hq_S} (e16 : ∀ (a1 : Int32) (a2 : Int32) (o3 : Option Value) (o4 : Option Value) (o5 : Option Value) (s : hq_S), q16 a1 a2 s = some y → hq_fx s y) (e39 : ∀ (a1 : Int32) (a2 : Int32) (a3 : Int32) (a4 : Int32) (a5 : Int32) (s : hq_S), q39 a1 a2 a3 a4 a5 s = some y → hq_fx s y) (h : f_X0_spreadOneGuard_L39_B n q16 q39 a1 a2 a3 a4 a5 s = some y) : hq_fx s y := by
  unfold f_X0_spreadOneGuard_L39_B at h
  have t := hq_fx_rf s
  by_cases c7 : a5 < (hq_gi s 152 0)
  · rw [if_pos c7] at h
    obtain ⟨x9, hx9, h⟩ := hq_bind h
    obtain ⟨z10, hz10, h⟩ := hq_bind h
    exact hq_fx_tr t (e39 a1 a2 a3 (a4 ||| z10) (a5 + (1 : Int32)) s h)
  · rw [if_neg c7] at h
    obtain ⟨s8, hs8, h⟩ := hq_bind h
    have t := hq_fx_tr t (hq_fx_st hs8 (by first | decide | omega))
    exact hq_fx_tr t (e16 a1 (a2 + (1 : Int32)) none none none s8 h)
theorem f_X0_spreadOneGuard_L39_fr {n m : Nat} {a1 : Int32} {a2 : Int32} {a3 : Int32} {a4 : Int32} {a5 : Int32} {q16 : Int32 → Int32 → hq_S → Option hq_S} {s : hq_S} {y : hq_S} (e16 : ∀ (a1 : Int32) (a2 : Int32) (o3 : Option Value) (o4 : Option Value) (o5 : Option Value) (s : hq_S), q16 a1 a2 s = some y → hq_fx s y) (h : f_X0_spreadOneGuard_L39 n q16 m a1 a2 a3 a4 a5 s = some y) : hq_fx s y := by
  induction m generalizing a1 a2 a3 a4 a5 s with
  | zero => cases h
  | succ m ih => exact f_X0_spreadOneGuard_L39_B_fr (n := n) (a1 := a1) (a2 := a2) (a3 := a3) (a4 := a4) (a5 := a5) (q39 := f_X0_spreadOneGuard_L39 n q16 m) e16 (fun a1 a2 a3 a4 a5 s h => ih h) h
theorem f_X0_spreadOneGuard_L16_B_fr {n : Nat} {a1 : Int32} {a2 : Int32} {q16 : Int32 → Int32 → hq_S → Option hq_S} {s : hq_S} {y : hq_S} (e16 : ∀ (a1 : Int32) (a2 : Int32) (o3 : Option Value) (o4 : Option Value) (o5 : Option Value) (s : hq_S), q16 a1 a2 s = some y → hq_fx s y) (h : f_X0_spreadOneGuard_L16_B n q16 a1 a2 s = some y) : hq_fx s y := by
  unfold f_X0_spreadOneGuard_L16_B at h
  have t := hq_fx_rf s
  by_cases c3 : a2 < (hq_gi s 152 3)
  · rw [if_pos c3] at h
    obtain ⟨x5, hx5, h⟩ := hq_bind h
    obtain ⟨x6, hx6, h⟩ := hq_bind h
    exact hq_fx_tr t (f_X0_spreadOneGuard_L39_fr e16 h)
  · rw [if_neg c3] at h
    obtain ⟨s4, hs4, h⟩ := hq_bind h
    have t := hq_fx_tr t (hq_fx_cp hs4 (by first | decide | omega))
    have h := Option.some.inj h
    subst h
    exact t
theorem f_X0_spreadOneGuard_L16_fr {n m : Nat} {a1 : Int32} {a2 : Int32} {s : hq_S} {y : hq_S} (h : f_X0_spreadOneGuard_L16 n m a1 a2 s = some y) : hq_fx s y := by
  induction m generalizing a1 a2 s with
  | zero => cases h
  | succ m ih => exact f_X0_spreadOneGuard_L16_B_fr (n := n) (a1 := a1) (a2 := a2) (q16 := f_X0_spreadOneGuard_L16 n m) (fun a1 a2 _ _ _ s h => ih h) h
theorem f_X0_spreadOneGuard_fr {n : Nat} {a1 : Int32} {s : hq_S} {y : hq_S} (h : f_X0_spreadOneGuard n a1 s = some y) : hq_fx s y := by
  unfold f_X0_spreadOneGuard at h
  have t := hq_fx_rf s
  by_cases c1 : a1 < (1 : Int32)
  · rw [if_pos c1] at h
    have h := Option.some.inj h
    subst h
    exact t
  · rw [if_neg c1] at h
    by_cases c2 : (hq_gi s 152 0) < (1 : Int32)
    · rw [if_pos c2] at h
      have h := Option.some.inj h
      subst h
      exact t
    · rw [if_neg c2] at h
      exact hq_fx_tr t (f_X0_spreadOneGuard_L16_fr h)
theorem f_X0_solveRound_L62_B_fr {n : Nat} {a1 : Int32} {a2 : Int32} {a3 : Int32} {a4 : Int32} {q62 : Int32 → Int32 → Int32 → Int32 → hq_S → Option (Int32 × hq_S)} {s : hq_S} {y : (Int32 × hq_S)} (e62 : ∀ (a1 : Int32) (a2 : Int32) (a3 : Int32) (a4 : Int32) (o5 : Option Value) (s : hq_S), q62 a1 a2 a3 a4 s = some y → hq_fx s y.2) (h : f_X0_solveRound_L62_B n q62 a1 a2 a3 a4 s = some y) : hq_fx s y.2 := by
  unfold f_X0_solveRound_L62_B at h
  have t := hq_fx_rf s
  by_cases c3 : a4 < (hq_gi s 152 3)
  · rw [if_pos c3] at h
    obtain ⟨x4, hx4, h⟩ := hq_bind h
    obtain ⟨x5, hx5, h⟩ := hq_bind h
    obtain ⟨z6, hz6, h⟩ := hq_bind h
    have t : hq_fx s z6.2 := by
      clear h
      have h := hz6
      by_cases c7 : (x4 &&& (x5 ^^^ (-1 : Int32))) = 0
      · rw [if_pos c7] at h
        cases h
        exact t
      · rw [if_neg c7] at h
        obtain ⟨s8, hs8, h⟩ := hq_bind h
        have t := hq_fx_tr t (f_X0_noteLost_fr hs8)
        cases h
        exact t
    exact hq_fx_tr t (e62 a1 a2 z6.1 (a4 + (1 : Int32)) none z6.2 h)
  · rw [if_neg c3] at h
    have hr : mm_rfit (mm_ret mc_X0_solveRound) a3 = true := hq_ifT h
    rw [if_pos hr] at h
    have h := Option.some.inj h
    subst h
    exact t
theorem f_X0_solveRound_L62_fr {n m : Nat} {a1 : Int32} {a2 : Int32} {a3 : Int32} {a4 : Int32} {s : hq_S} {y : (Int32 × hq_S)} (h : f_X0_solveRound_L62 n m a1 a2 a3 a4 s = some y) : hq_fx s y.2 := by
  induction m generalizing a1 a2 a3 a4 s with
  | zero => cases h
  | succ m ih => exact f_X0_solveRound_L62_B_fr (n := n) (a1 := a1) (a2 := a2) (a3 := a3) (a4 := a4) (q62 := f_X0_solveRound_L62 n m) (fun a1 a2 a3 a4 _ s h => ih h) h
theorem f_X0_solveRound_L31_B_fr {n : Nat} {a1 : Int32} {a2 : Int32} {a3 : Int32} {q31 : Int32 → Int32 → Int32 → hq_S → Option (Int32 × hq_S)} {s : hq_S} {y : (Int32 × hq_S)} (e31 : ∀ (a1 : Int32) (a2 : Int32) (a3 : Int32) (s : hq_S), q31 a1 a2 a3 s = some y → hq_fx s y.2) (h : f_X0_solveRound_L31_B n q31 a1 a2 a3 s = some y) : hq_fx s y.2 := by
  unfold f_X0_solveRound_L31_B at h
  have t := hq_fx_rf s
  by_cases c2 : a3 < (hq_gi s 152 2)
  · rw [if_pos c2] at h
    obtain ⟨s9, hs9, h⟩ := hq_bind h
    have t := hq_fx_tr t (f_X0_spreadOneGuard_fr hs9)
    exact hq_fx_tr t (e31 a1 (a2 * (hq_gi s9 152 0)) (a3 + (1 : Int32)) s9 h)
  · rw [if_neg c2] at h
    exact hq_fx_tr t (f_X0_solveRound_L62_fr h)
theorem f_X0_solveRound_L31_fr {n m : Nat} {a1 : Int32} {a2 : Int32} {a3 : Int32} {s : hq_S} {y : (Int32 × hq_S)} (h : f_X0_solveRound_L31 n m a1 a2 a3 s = some y) : hq_fx s y.2 := by
  induction m generalizing a1 a2 a3 s with
  | zero => cases h
  | succ m ih => exact f_X0_solveRound_L31_B_fr (n := n) (a1 := a1) (a2 := a2) (a3 := a3) (q31 := f_X0_solveRound_L31 n m) (fun a1 a2 a3 s h => ih h) h
theorem f_X0_solveRound_L2_B_fr {n : Nat} {a1 : Int32} {a2 : Int32} {q2 : Int32 → Int32 → hq_S → Option (Int32 × hq_S)} {s : hq_S} {y : (Int32 × hq_S)} (e2 : ∀ (a1 : Int32) (a2 : Int32) (s : hq_S), q2 a1 a2 s = some y → hq_fx s y.2) (h : f_X0_solveRound_L2_B n q2 a1 a2 s = some y) : hq_fx s y.2 := by
  unfold f_X0_solveRound_L2_B at h
  have t := hq_fx_rf s
  by_cases c1 : a2 < (hq_gi s 152 3)
  · rw [if_pos c1] at h
    obtain ⟨y10, hy10, h⟩ := hq_bind h
    have t := hq_fx_tr t (f_X0_lostOnTurn_fr hy10)
    obtain ⟨s11, hs11, h⟩ := hq_bind h
    have t := hq_fx_tr t (hq_fx_st hs11 (by first | decide | omega))
    exact hq_fx_tr t (e2 a1 (a2 + (1 : Int32)) s11 h)
  · rw [if_neg c1] at h
    exact hq_fx_tr t (f_X0_solveRound_L31_fr h)
theorem f_X0_solveRound_L2_fr {n m : Nat} {a1 : Int32} {a2 : Int32} {s : hq_S} {y : (Int32 × hq_S)} (h : f_X0_solveRound_L2 n m a1 a2 s = some y) : hq_fx s y.2 := by
  induction m generalizing a1 a2 s with
  | zero => cases h
  | succ m ih => exact f_X0_solveRound_L2_B_fr (n := n) (a1 := a1) (a2 := a2) (q2 := f_X0_solveRound_L2 n m) (fun a1 a2 s h => ih h) h
theorem f_X0_solveRound_fr {n : Nat} {a1 : Int32} {s : hq_S} {y : (Int32 × hq_S)} (h : f_X0_solveRound n a1 s = some y) : hq_fx s y.2 := by
  unfold f_X0_solveRound at h
  have t := hq_fx_rf s
  exact hq_fx_tr t (f_X0_solveRound_L2_fr h)
theorem f_X0_solve_L36_B_fr {n : Nat} {k1 : Nat} {a2 : Int32} {a3 : Int32} {a4 : Int32} {q36 : Nat → Int32 → Int32 → Int32 → hq_S → Option hq_S} {s : hq_S} {y : hq_S} (e36 : ∀ (k1 : Nat) (a2 : Int32) (a3 : Int32) (a4 : Int32) (s : hq_S) (m1_ : hq_isS k1), q36 k1 a2 a3 a4 s = some y → hq_fx s y) (m1_ : hq_isS k1) (h : f_X0_solve_L36_B n q36 k1 a2 a3 a4 s = some y) : hq_fx s y := by
  unfold f_X0_solve_L36_B at h
  have bm1_ := hq_leS m1_
  have t := hq_fx_rf s
  by_cases c6 : (10000 : Int32) < a4
  · rw [if_pos c6] at h
    have h := Option.some.inj h
    subst h
    exact t
  · rw [if_neg c6] at h
    by_cases c7 : a3 = 0
    · rw [if_pos c7] at h
      have h := Option.some.inj h
      subst h
      exact t
    · rw [if_neg c7] at h
      obtain ⟨y8, hy8, h⟩ := hq_bind h
      have t := hq_fx_tr t (f_X0_solveRound_fr hy8)
      exact hq_fx_tr t (e36 k1 a2 y8.1 (a4 + (1 : Int32)) y8.2 m1_ h)
theorem f_X0_solve_L36_fr {n m : Nat} {k1 : Nat} {a2 : Int32} {a3 : Int32} {a4 : Int32} {s : hq_S} {y : hq_S} (m1_ : hq_isS k1) (h : f_X0_solve_L36 n m k1 a2 a3 a4 s = some y) : hq_fx s y := by
  induction m generalizing k1 a2 a3 a4 s with
  | zero => cases h
  | succ m ih => exact f_X0_solve_L36_B_fr (n := n) (k1 := k1) (a2 := a2) (a3 := a3) (a4 := a4) (q36 := f_X0_solve_L36 n m) (fun k1 a2 a3 a4 s m1_ h => ih m1_ h) m1_ h
theorem f_X0_solve_fr {n : Nat} {k1 : Nat} {a2 : Int32} {s : hq_S} {y : hq_S} (m1_ : hq_isS k1) (h : f_X0_solve n k1 a2 s = some y) : hq_fx s y := by
  unfold f_X0_solve at h
  have bm1_ := hq_leS m1_
  have t := hq_fx_rf s
  obtain ⟨s1, hs1, h⟩ := hq_bind h
  have t := hq_fx_tr t (f_X0_fitTo_fr m1_ hs1)
  by_cases c2 : (hq_gi s1 152 2) = a2
  · rw [if_pos c2] at h
    have h := Option.some.inj h
    subst h
    exact t
  · rw [if_neg c2] at h
    by_cases c3 : (hq_gi s1 152 0) < (1 : Int32)
    · rw [if_pos c3] at h
      have h := Option.some.inj h
      subst h
      exact t
    · rw [if_neg c3] at h
      obtain ⟨s4, hs4, h⟩ := hq_bind h
      have t := hq_fx_tr t (hq_fx_pi hs4 (by first | decide | omega))
      obtain ⟨s5, hs5, h⟩ := hq_bind h
      have t := hq_fx_tr t (f_X0_layOut_fr hs5)
      exact hq_fx_tr t (f_X0_solve_L36_fr m1_ h)
theorem f_X0_roundsFrom_fr {n : Nat} {a1 : Int32} {a2 : Int32} {s : hq_S} {y : (Int32 × hq_S)} (h : f_X0_roundsFrom n a1 a2 s = some y) : hq_fx s y.2 := by
  unfold f_X0_roundsFrom at h
  have t := hq_fx_rf s
  obtain ⟨x1, hx1, h⟩ := hq_bind h
  have h := Option.some.inj h
  subst h
  exact t
theorem f_X0_cornerIn_L15_B_fr {n : Nat} {a1 : Int32} {a2 : Int32} {a3 : Int32} {a4 : Int32} {q15 : Int32 → Int32 → Int32 → Int32 → hq_S → Option (Int32 × hq_S)} {s : hq_S} {y : (Int32 × hq_S)} (e15 : ∀ (a1 : Int32) (a2 : Int32) (a3 : Int32) (a4 : Int32) (s : hq_S), q15 a1 a2 a3 a4 s = some y → hq_fx s y.2) (h : f_X0_cornerIn_L15_B n q15 a1 a2 a3 a4 s = some y) : hq_fx s y.2 := by
  unfold f_X0_cornerIn_L15_B at h
  have t := hq_fx_rf s
  by_cases c2 : a4 < a2
  · rw [if_pos c2] at h
    obtain ⟨x4, hx4, h⟩ := hq_bind h
    exact hq_fx_tr t (e15 a1 a2 x4 (a4 + (1 : Int32)) s h)
  · rw [if_neg c2] at h
    obtain ⟨x3, hx3, h⟩ := hq_bind h
    have h := Option.some.inj h
    subst h
    exact t
theorem f_X0_cornerIn_L15_fr {n m : Nat} {a1 : Int32} {a2 : Int32} {a3 : Int32} {a4 : Int32} {s : hq_S} {y : (Int32 × hq_S)} (h : f_X0_cornerIn_L15 n m a1 a2 a3 a4 s = some y) : hq_fx s y.2 := by
  induction m generalizing a1 a2 a3 a4 s with
  | zero => cases h
  | succ m ih => exact f_X0_cornerIn_L15_B_fr (n := n) (a1 := a1) (a2 := a2) (a3 := a3) (a4 := a4) (q15 := f_X0_cornerIn_L15 n m) (fun a1 a2 a3 a4 s h => ih h) h
theorem f_X0_cornerIn_fr {n : Nat} {a1 : Int32} {a2 : Int32} {s : hq_S} {y : (Int32 × hq_S)} (h : f_X0_cornerIn n a1 a2 s = some y) : hq_fx s y.2 := by
  unfold f_X0_cornerIn at h
  have t := hq_fx_rf s
  by_cases c1 : (hq_gi s 152 0) < (1 : Int32)
  · rw [if_pos c1] at h
    have h := Option.some.inj h
    subst h
    exact t
  · rw [if_neg c1] at h
    exact hq_fx_tr t (f_X0_cornerIn_L15_fr h)
theorem f_X0_isTurn_L2_B_fr {n : Nat} {a1 : Int32} {a2 : Int32} {a3 : Int32} {q2 : Int32 → Int32 → Int32 → hq_S → Option (Int32 × hq_S)} {s : hq_S} {y : (Int32 × hq_S)} (e2 : ∀ (a1 : Int32) (a2 : Int32) (a3 : Int32) (s : hq_S), q2 a1 a2 a3 s = some y → hq_fx s y.2) (h : f_X0_isTurn_L2_B n q2 a1 a2 a3 s = some y) : hq_fx s y.2 := by
  unfold f_X0_isTurn_L2_B at h
  have t := hq_fx_rf s
  by_cases c1 : a3 < (hq_gi s 152 2)
  · rw [if_pos c1] at h
    obtain ⟨y2, hy2, h⟩ := hq_bind h
    have t := hq_fx_tr t (f_X0_cornerIn_fr hy2)
    obtain ⟨x3, hx3, h⟩ := hq_bind h
    obtain ⟨y4, hy4, h⟩ := hq_bind h
    have t := hq_fx_tr t (f_X0_cornerIn_fr hy4)
    by_cases c5 : ((x3 >>> (y4.1 &&& 31)) &&& (1 : Int32)) = 0
    · rw [if_pos c5] at h
      have h := Option.some.inj h
      subst h
      exact t
    · rw [if_neg c5] at h
      exact hq_fx_tr t (e2 a1 a2 (a3 + (1 : Int32)) y4.2 h)
  · rw [if_neg c1] at h
    have h := Option.some.inj h
    subst h
    exact t
theorem f_X0_isTurn_L2_fr {n m : Nat} {a1 : Int32} {a2 : Int32} {a3 : Int32} {s : hq_S} {y : (Int32 × hq_S)} (h : f_X0_isTurn_L2 n m a1 a2 a3 s = some y) : hq_fx s y.2 := by
  induction m generalizing a1 a2 a3 s with
  | zero => cases h
  | succ m ih => exact f_X0_isTurn_L2_B_fr (n := n) (a1 := a1) (a2 := a2) (a3 := a3) (q2 := f_X0_isTurn_L2 n m) (fun a1 a2 a3 s h => ih h) h
theorem f_X0_isTurn_fr {n : Nat} {a1 : Int32} {a2 : Int32} {s : hq_S} {y : (Int32 × hq_S)} (h : f_X0_isTurn n a1 a2 s = some y) : hq_fx s y.2 := by
  unfold f_X0_isTurn at h
  have t := hq_fx_rf s
  exact hq_fx_tr t (f_X0_isTurn_L2_fr h)
theorem f_X0_safest_L8_B_fr {n : Nat} {a1 : Int32} {a2 : Int32} {a3 : Int32} {a4 : Int32} {a5 : Int32} {q8 : Int32 → Int32 → Int32 → Int32 → Int32 → hq_S → Option (Int32 × hq_S)} {s : hq_S} {y : (Int32 × hq_S)} (e8 : ∀ (a1 : Int32) (a2 : Int32) (a3 : Int32) (a4 : Int32) (a5 : Int32) (s : hq_S), q8 a1 a2 a3 a4 a5 s = some y → hq_fx s y.2) (h : f_X0_safest_L8_B n q8 a1 a2 a3 a4 a5 s = some y) : hq_fx s y.2 := by
  unfold f_X0_safest_L8_B at h
  have t := hq_fx_rf s
  by_cases c1 : a5 < (hq_gi s 152 0)
  · rw [if_pos c1] at h
    obtain ⟨x2, hx2, h⟩ := hq_bind h
    obtain ⟨z3, hz3, h⟩ := hq_bind h
    have t : hq_fx s z3.2.2 := by
      clear h
      have h := hz3
      by_cases c4 : ((x2 >>> (a5 &&& 31)) &&& (1 : Int32)) = (1 : Int32)
      · rw [if_pos c4] at h
        obtain ⟨y5, hy5, h⟩ := hq_bind h
        have t := hq_fx_tr t (f_X0_roundsFrom_fr hy5)
        by_cases c6 : a4 < y5.1
        · rw [if_pos c6] at h
          obtain ⟨y7, hy7, h⟩ := hq_bind h
          have t := hq_fx_tr t (f_X0_roundsFrom_fr hy7)
          cases h
          exact t
        · rw [if_neg c6] at h
          cases h
          exact t
      · rw [if_neg c4] at h
        cases h
        exact t
    exact hq_fx_tr t (e8 a1 a2 z3.1 z3.2.1 (a5 + (1 : Int32)) z3.2.2 h)
  · rw [if_neg c1] at h
    have h := Option.some.inj h
    subst h
    exact t
theorem f_X0_safest_L8_fr {n m : Nat} {a1 : Int32} {a2 : Int32} {a3 : Int32} {a4 : Int32} {a5 : Int32} {s : hq_S} {y : (Int32 × hq_S)} (h : f_X0_safest_L8 n m a1 a2 a3 a4 a5 s = some y) : hq_fx s y.2 := by
  induction m generalizing a1 a2 a3 a4 a5 s with
  | zero => cases h
  | succ m ih => exact f_X0_safest_L8_B_fr (n := n) (a1 := a1) (a2 := a2) (a3 := a3) (a4 := a4) (a5 := a5) (q8 := f_X0_safest_L8 n m) (fun a1 a2 a3 a4 a5 s h => ih h) h
theorem f_X0_safest_fr {n : Nat} {a1 : Int32} {a2 : Int32} {s : hq_S} {y : (Int32 × hq_S)} (h : f_X0_safest n a1 a2 s = some y) : hq_fx s y.2 := by
  unfold f_X0_safest at h
  have t := hq_fx_rf s
  exact hq_fx_tr t (f_X0_safest_L8_fr h)
theorem f_X0_roundsOnTurn_fr {n : Nat} {a1 : Int32} {a2 : Int32} {s : hq_S} {y : (Int32 × hq_S)} (h : f_X0_roundsOnTurn n a1 a2 s = some y) : hq_fx s y.2 := by
  unfold f_X0_roundsOnTurn at h
  have t := hq_fx_rf s
  obtain ⟨y1, hy1, h⟩ := hq_bind h
  have t := hq_fx_tr t (f_X0_roundsFrom_fr hy1)
  by_cases c2 : y1.1 = 0
  · rw [if_pos c2] at h
    have h := Option.some.inj h
    subst h
    exact t
  · rw [if_neg c2] at h
    obtain ⟨y3, hy3, h⟩ := hq_bind h
    have t := hq_fx_tr t (f_X0_safest_fr hy3)
    obtain ⟨y4, hy4, h⟩ := hq_bind h
    have t := hq_fx_tr t (f_X0_roundsFrom_fr hy4)
    have h := Option.some.inj h
    subst h
    exact t
theorem f_X0_firstRow_J45_fr {n : Nat} {a1 : Int32} {a2 : Int32} {a3 : Int32} {a4 : Int32} {q12 : Int32 → Int32 → Int32 → Int32 → hq_S → Option (Int32 × hq_S)} {s : hq_S} {y : (Int32 × hq_S)} (e12 : ∀ (a1 : Int32) (a2 : Int32) (a3 : Int32) (a4 : Int32) (s : hq_S), q12 a1 a2 a3 a4 s = some y → hq_fx s y.2) (h : f_X0_firstRow_J45 n q12 a1 a2 a3 a4 s = some y) : hq_fx s y.2 := by
  unfold f_X0_firstRow_J45 at h
  have t := hq_fx_rf s
  exact hq_fx_tr t (e12 a1 a2 a3 (a4 + (1 : Int32)) s h)
theorem f_X0_firstRow_L12_B_fr {n : Nat} {a1 : Int32} {a2 : Int32} {a3 : Int32} {a4 : Int32} {q12 : Int32 → Int32 → Int32 → Int32 → hq_S → Option (Int32 × hq_S)} {s : hq_S} {y : (Int32 × hq_S)} (e12 : ∀ (a1 : Int32) (a2 : Int32) (a3 : Int32) (a4 : Int32) (s : hq_S), q12 a1 a2 a3 a4 s = some y → hq_fx s y.2) (h : f_X0_firstRow_L12_B n q12 a1 a2 a3 a4 s = some y) : hq_fx s y.2 := by
  unfold f_X0_firstRow_L12_B at h
  have t := hq_fx_rf s
  by_cases c2 : a4 < (hq_gi s 152 3)
  · rw [if_pos c2] at h
    obtain ⟨y3, hy3, h⟩ := hq_bind h
    have t := hq_fx_tr t (f_X0_isTurn_fr hy3)
    by_cases c4 : y3.1 = 0
    · rw [if_pos c4] at h
      exact hq_fx_tr t (f_X0_firstRow_J45_fr e12 h)
    · rw [if_neg c4] at h
      obtain ⟨y5, hy5, h⟩ := hq_bind h
      have t := hq_fx_tr t (f_X0_roundsOnTurn_fr hy5)
      by_cases c6 : y5.1 = a3
      · rw [if_pos c6] at h
        have h := Option.some.inj h
        subst h
        exact t
      · rw [if_neg c6] at h
        exact hq_fx_tr t (f_X0_firstRow_J45_fr e12 h)
  · rw [if_neg c2] at h
    have h := Option.some.inj h
    subst h
    exact t
theorem f_X0_firstRow_L12_fr {n m : Nat} {a1 : Int32} {a2 : Int32} {a3 : Int32} {a4 : Int32} {s : hq_S} {y : (Int32 × hq_S)} (h : f_X0_firstRow_L12 n m a1 a2 a3 a4 s = some y) : hq_fx s y.2 := by
  induction m generalizing a1 a2 a3 a4 s with
  | zero => cases h
  | succ m ih => exact f_X0_firstRow_L12_B_fr (n := n) (a1 := a1) (a2 := a2) (a3 := a3) (a4 := a4) (q12 := f_X0_firstRow_L12 n m) (fun a1 a2 a3 a4 s h => ih h) h
theorem f_X0_firstRow_fr {n : Nat} {a1 : Int32} {a2 : Int32} {s : hq_S} {y : (Int32 × hq_S)} (h : f_X0_firstRow n a1 a2 s = some y) : hq_fx s y.2 := by
  unfold f_X0_firstRow at h
  have t := hq_fx_rf s
  obtain ⟨y1, hy1, h⟩ := hq_bind h
  have t := hq_fx_tr t (f_X0_roundsFrom_fr hy1)
  exact hq_fx_tr t (f_X0_firstRow_L12_fr h)
theorem f_X0_firstPostRow_L2_B_fr {n : Nat} {a1 : Int32} {q2 : Int32 → hq_S → Option (Int32 × hq_S)} {s : hq_S} {y : (Int32 × hq_S)} (e2 : ∀ (a1 : Int32) (s : hq_S), q2 a1 s = some y → hq_fx s y.2) (h : f_X0_firstPostRow_L2_B n q2 a1 s = some y) : hq_fx s y.2 := by
  unfold f_X0_firstPostRow_L2_B at h
  have t := hq_fx_rf s
  by_cases c1 : a1 < (hq_gi s 152 3)
  · rw [if_pos c1] at h
    obtain ⟨x2, hx2, h⟩ := hq_bind h
    by_cases c3 : x2 = (((1 : Int32) <<< ((hq_gi s 152 0) &&& 31)) - (1 : Int32))
    · rw [if_pos c3] at h
      have h := Option.some.inj h
      subst h
      exact t
    · rw [if_neg c3] at h
      exact hq_fx_tr t (e2 (a1 + (1 : Int32)) s h)
  · rw [if_neg c1] at h
    have h := Option.some.inj h
    subst h
    exact t
theorem f_X0_firstPostRow_L2_fr {n m : Nat} {a1 : Int32} {s : hq_S} {y : (Int32 × hq_S)} (h : f_X0_firstPostRow_L2 n m a1 s = some y) : hq_fx s y.2 := by
  induction m generalizing a1 s with
  | zero => cases h
  | succ m ih => exact f_X0_firstPostRow_L2_B_fr (n := n) (a1 := a1) (q2 := f_X0_firstPostRow_L2 n m) (fun a1 s h => ih h) h
theorem f_X0_firstPostRow_fr {n : Nat} {s : hq_S} {y : (Int32 × hq_S)} (h : f_X0_firstPostRow n s = some y) : hq_fx s y.2 := by
  unfold f_X0_firstPostRow at h
  have t := hq_fx_rf s
  exact hq_fx_tr t (f_X0_firstPostRow_L2_fr h)
theorem f_X0_findPosts_L25_B_fr {n : Nat} {k1 : Nat} {a2 : Int32} {q25 : Nat → Int32 → hq_S → Option hq_S} {s : hq_S} {y : hq_S} (e25 : ∀ (k1 : Nat) (a2 : Int32) (s : hq_S) (m1_ : hq_isS k1), q25 k1 a2 s = some y → hq_fx s y) (m1_ : hq_isS k1) (h : f_X0_findPosts_L25_B n q25 k1 a2 s = some y) : hq_fx s y := by
  unfold f_X0_findPosts_L25_B at h
  have bm1_ := hq_leS m1_
  have t := hq_fx_rf s
  by_cases c5 : (3 : Int32) < a2
  · rw [if_pos c5] at h
    have h := Option.some.inj h
    subst h
    exact t
  · rw [if_neg c5] at h
    by_cases c6 : (hq_gi s 152 10) = 0
    · rw [if_pos c6] at h
      obtain ⟨s7, hs7, h⟩ := hq_bind h
      have t := hq_fx_tr t (f_X0_solve_fr m1_ hs7)
      obtain ⟨y8, hy8, h⟩ := hq_bind h
      have t := hq_fx_tr t (f_X0_firstPostRow_fr hy8)
      obtain ⟨s9, hs9, h⟩ := hq_bind h
      have t := hq_fx_tr t (hq_fx_pi hs9 (by first | decide | omega))
      obtain ⟨z10, hz10, h⟩ := hq_bind h
      obtain ⟨s12, hs12, h⟩ := hq_bind h
      have t := hq_fx_tr t (hq_fx_pi hs12 (by first | decide | omega))
      exact hq_fx_tr t (e25 k1 (a2 + (1 : Int32)) s12 m1_ h)
    · rw [if_neg c6] at h
      have h := Option.some.inj h
      subst h
      exact t
theorem f_X0_findPosts_L25_fr {n m : Nat} {k1 : Nat} {a2 : Int32} {s : hq_S} {y : hq_S} (m1_ : hq_isS k1) (h : f_X0_findPosts_L25 n m k1 a2 s = some y) : hq_fx s y := by
  induction m generalizing k1 a2 s with
  | zero => cases h
  | succ m ih => exact f_X0_findPosts_L25_B_fr (n := n) (k1 := k1) (a2 := a2) (q25 := f_X0_findPosts_L25 n m) (fun k1 a2 s m1_ h => ih m1_ h) m1_ h
theorem f_X0_findPosts_fr {n : Nat} {k1 : Nat} {s : hq_S} {y : hq_S} (m1_ : hq_isS k1) (h : f_X0_findPosts n k1 s = some y) : hq_fx s y := by
  unfold f_X0_findPosts at h
  have bm1_ := hq_leS m1_
  have t := hq_fx_rf s
  obtain ⟨s1, hs1, h⟩ := hq_bind h
  have t := hq_fx_tr t (f_X0_fitTo_fr m1_ hs1)
  by_cases c2 : (hq_gi s1 152 9) = 0
  · rw [if_pos c2] at h
    obtain ⟨s3, hs3, h⟩ := hq_bind h
    have t := hq_fx_tr t (hq_fx_pi hs3 (by first | decide | omega))
    obtain ⟨s4, hs4, h⟩ := hq_bind h
    have t := hq_fx_tr t (hq_fx_pi hs4 (by first | decide | omega))
    exact hq_fx_tr t (f_X0_findPosts_L25_fr m1_ h)
  · rw [if_neg c2] at h
    have h := Option.some.inj h
    subst h
    exact t
theorem f_X1_clear_fr {n : Nat} {s : hq_S} {y : hq_S} (h : f_X1_clear n s = some y) : hq_fx s y := by
  unfold f_X1_clear at h
  have t := hq_fx_rf s
  obtain ⟨s1, hs1, h⟩ := hq_bind h
  have t := hq_fx_tr t (hq_fx_pi hs1 (by first | decide | omega))
  have h := Option.some.inj h
  subst h
  exact t
theorem f_X1_forgetFirst_fr {n : Nat} {s : hq_S} {y : hq_S} (h : f_X1_forgetFirst n s = some y) : hq_fx s y := by
  unfold f_X1_forgetFirst at h
  have t := hq_fx_rf s
  obtain ⟨s1, hs1, h⟩ := hq_bind h
  have t := hq_fx_tr t (hq_fx_pi hs1 (by first | decide | omega))
  obtain ⟨s2, hs2, h⟩ := hq_bind h
  have t := hq_fx_tr t (hq_fx_cp hs2 (by first | decide | omega))
  obtain ⟨s3, hs3, h⟩ := hq_bind h
  have t := hq_fx_tr t (hq_fx_cp hs3 (by first | decide | omega))
  obtain ⟨s4, hs4, h⟩ := hq_bind h
  have t := hq_fx_tr t (hq_fx_cp hs4 (by first | decide | omega))
  have h := Option.some.inj h
  subst h
  exact t
theorem f_X1_note_fr {n : Nat} {a1 : Int32} {a2 : Int32} {a3 : Int32} {s : hq_S} {y : hq_S} (h : f_X1_note n a1 a2 a3 s = some y) : hq_fx s y := by
  unfold f_X1_note at h
  have t := hq_fx_rf s
  obtain ⟨z1, hz1, h⟩ := hq_bind h
  have t : hq_fx s z1 := by
    clear h
    have h := hz1
    by_cases c2 : (hq_gi s 170 0) < (20 : Int32)
    · rw [if_pos c2] at h
      cases h
      exact t
    · rw [if_neg c2] at h
      obtain ⟨s3, hs3, h⟩ := hq_bind h
      have t := hq_fx_tr t (f_X1_forgetFirst_fr hs3)
      cases h
      exact t
  obtain ⟨s4, hs4, h⟩ := hq_bind h
  have t := hq_fx_tr t (hq_fx_st hs4 (by first | decide | omega))
  obtain ⟨s5, hs5, h⟩ := hq_bind h
  have t := hq_fx_tr t (hq_fx_st hs5 (by first | decide | omega))
  obtain ⟨s6, hs6, h⟩ := hq_bind h
  have t := hq_fx_tr t (hq_fx_st hs6 (by first | decide | omega))
  obtain ⟨s7, hs7, h⟩ := hq_bind h
  have t := hq_fx_tr t (hq_fx_pi hs7 (by first | decide | omega))
  have h := Option.some.inj h
  subst h
  exact t
theorem f_X1_takeLatest_fr {n : Nat} {s : hq_S} {y : hq_S} (h : f_X1_takeLatest n s = some y) : hq_fx s y := by
  unfold f_X1_takeLatest at h
  have t := hq_fx_rf s
  by_cases c1 : 0 < (hq_gi s 170 0)
  · rw [if_pos c1] at h
    obtain ⟨s2, hs2, h⟩ := hq_bind h
    have t := hq_fx_tr t (hq_fx_pi hs2 (by first | decide | omega))
    obtain ⟨x3, hx3, h⟩ := hq_bind h
    obtain ⟨s4, hs4, h⟩ := hq_bind h
    have t := hq_fx_tr t (hq_fx_pi hs4 (by first | decide | omega))
    obtain ⟨x5, hx5, h⟩ := hq_bind h
    obtain ⟨s6, hs6, h⟩ := hq_bind h
    have t := hq_fx_tr t (hq_fx_pi hs6 (by first | decide | omega))
    obtain ⟨x7, hx7, h⟩ := hq_bind h
    obtain ⟨s8, hs8, h⟩ := hq_bind h
    have t := hq_fx_tr t (hq_fx_pi hs8 (by first | decide | omega))
    have h := Option.some.inj h
    subst h
    exact t
  · rw [if_neg c1] at h
    have h := Option.some.inj h
    subst h
    exact t
theorem f_X2_clear_fr {n : Nat} {s : hq_S} {y : hq_S} (h : f_X2_clear n s = some y) : hq_fx s y := by
  unfold f_X2_clear at h
  have t := hq_fx_rf s
  obtain ⟨s1, hs1, h⟩ := hq_bind h
  have t := hq_fx_tr t (hq_fx_pi hs1 (by first | decide | omega))
  obtain ⟨s2, hs2, h⟩ := hq_bind h
  have t := hq_fx_tr t (hq_fx_pi hs2 (by first | decide | omega))
  have h := Option.some.inj h
  subst h
  exact t
theorem f_X2_knownBy_fr {n : Nat} {s : hq_S} {y : (Int32 × hq_S)} (h : f_X2_knownBy n s = some y) : hq_fx s y.2 := by
  unfold f_X2_knownBy at h
  have t := hq_fx_rf s
  by_cases c1 : (hq_gi s 163 1) = (-1 : Int32)
  · rw [if_pos c1] at h
    have h := Option.some.inj h
    subst h
    exact t
  · rw [if_neg c1] at h
    have h := Option.some.inj h
    subst h
    exact t
theorem f_X2_knowBy_fr {n : Nat} {a1 : Int32} {s : hq_S} {y : (Int32 × hq_S)} (h : f_X2_knowBy n a1 s = some y) : hq_fx s y.2 := by
  unfold f_X2_knowBy at h
  have t := hq_fx_rf s
  by_cases c1 : a1 < (-1 : Int32)
  · rw [if_pos c1] at h
    have h := Option.some.inj h
    subst h
    exact t
  · rw [if_neg c1] at h
    by_cases c2 : (hq_gi s 163 0) < a1
    · rw [if_pos c2] at h
      have h := Option.some.inj h
      subst h
      exact t
    · rw [if_neg c2] at h
      obtain ⟨s3, hs3, h⟩ := hq_bind h
      have t := hq_fx_tr t (hq_fx_pi hs3 (by first | decide | omega))
      have h := Option.some.inj h
      subst h
      exact t
theorem f_X2_addSight_fr {n : Nat} {a1 : Int32} {a2 : Int32} {a3 : Int32} {a4 : Int32} {s : hq_S} {y : (Int32 × hq_S)} (h : f_X2_addSight n a1 a2 a3 a4 s = some y) : hq_fx s y.2 := by
  unfold f_X2_addSight at h
  have t := hq_fx_rf s
  by_cases c1 : (hq_gi s 163 0) < (24 : Int32)
  · rw [if_pos c1] at h
    obtain ⟨s2, hs2, h⟩ := hq_bind h
    have t := hq_fx_tr t (hq_fx_st hs2 (by first | decide | omega))
    obtain ⟨s3, hs3, h⟩ := hq_bind h
    have t := hq_fx_tr t (hq_fx_st hs3 (by first | decide | omega))
    obtain ⟨s4, hs4, h⟩ := hq_bind h
    have t := hq_fx_tr t (hq_fx_st hs4 (by first | decide | omega))
    obtain ⟨s5, hs5, h⟩ := hq_bind h
    have t := hq_fx_tr t (hq_fx_st hs5 (by first | decide | omega))
    obtain ⟨s6, hs6, h⟩ := hq_bind h
    have t := hq_fx_tr t (hq_fx_st hs6 (by first | decide | omega))
    obtain ⟨s7, hs7, h⟩ := hq_bind h
    have t := hq_fx_tr t (hq_fx_pi hs7 (by first | decide | omega))
    have h := Option.some.inj h
    subst h
    exact t
  · rw [if_neg c1] at h
    have h := Option.some.inj h
    subst h
    exact t
theorem f_X2_addStrike_fr {n : Nat} {a1 : Int32} {s : hq_S} {y : (Int32 × hq_S)} (h : f_X2_addStrike n a1 s = some y) : hq_fx s y.2 := by
  unfold f_X2_addStrike at h
  have t := hq_fx_rf s
  by_cases c1 : a1 < 0
  · rw [if_pos c1] at h
    have h := Option.some.inj h
    subst h
    exact t
  · rw [if_neg c1] at h
    by_cases c2 : a1 < (hq_gi s 163 0)
    · rw [if_pos c2] at h
      by_cases c3 : (hq_gi s 163 0) < (24 : Int32)
      · rw [if_pos c3] at h
        obtain ⟨s4, hs4, h⟩ := hq_bind h
        have t := hq_fx_tr t (hq_fx_st hs4 (by first | decide | omega))
        obtain ⟨s5, hs5, h⟩ := hq_bind h
        have t := hq_fx_tr t (hq_fx_pi hs5 (by first | decide | omega))
        have h := Option.some.inj h
        subst h
        exact t
      · rw [if_neg c3] at h
        have h := Option.some.inj h
        subst h
        exact t
    · rw [if_neg c2] at h
      have h := Option.some.inj h
      subst h
      exact t
theorem f_X2_standing_L11_B_fr {n : Nat} {a1 : Int32} {a2 : Int32} {a3 : Int32} {q11 : Int32 → Int32 → Int32 → hq_S → Option (Int32 × hq_S)} {s : hq_S} {y : (Int32 × hq_S)} (e11 : ∀ (a1 : Int32) (a2 : Int32) (a3 : Int32) (s : hq_S), q11 a1 a2 a3 s = some y → hq_fx s y.2) (h : f_X2_standing_L11_B n q11 a1 a2 a3 s = some y) : hq_fx s y.2 := by
  unfold f_X2_standing_L11_B at h
  have t := hq_fx_rf s
  by_cases c2 : a3 < 0
  · rw [if_pos c2] at h
    have h := Option.some.inj h
    subst h
    exact t
  · rw [if_neg c2] at h
    obtain ⟨z3, hz3, h⟩ := hq_bind h
    exact hq_fx_tr t (e11 z3.1 z3.2 (a3 + Int32.ofInt (-1)) s h)
theorem f_X2_standing_L11_fr {n m : Nat} {a1 : Int32} {a2 : Int32} {a3 : Int32} {s : hq_S} {y : (Int32 × hq_S)} (h : f_X2_standing_L11 n m a1 a2 a3 s = some y) : hq_fx s y.2 := by
  induction m generalizing a1 a2 a3 s with
  | zero => cases h
  | succ m ih => exact f_X2_standing_L11_B_fr (n := n) (a1 := a1) (a2 := a2) (a3 := a3) (q11 := f_X2_standing_L11 n m) (fun a1 a2 a3 s h => ih h) h
theorem f_X2_standing_fr {n : Nat} {s : hq_S} {y : (Int32 × hq_S)} (h : f_X2_standing n s = some y) : hq_fx s y.2 := by
  unfold f_X2_standing at h
  have t := hq_fx_rf s
  obtain ⟨y1, hy1, h⟩ := hq_bind h
  have t := hq_fx_tr t (f_X2_knownBy_fr hy1)
  exact hq_fx_tr t (f_X2_standing_L11_fr h)
theorem f_X5_copyFrom_fr {n : Nat} {k0 : Nat} {k1 : Nat} {s : hq_S} {y : hq_S} (m0_ : hq_isN k0) (m1_ : hq_isN k1) (h : f_X5_copyFrom n k0 k1 s = some y) : hq_fx s y := by
  unfold f_X5_copyFrom at h
  have bm0_ := hq_leN m0_
  have bm1_ := hq_leN m1_
  have t := hq_fx_rf s
  obtain ⟨s1, hs1, h⟩ := hq_bind h
  have t := hq_fx_tr t (hq_fx_pi hs1 (by first | decide | omega))
  obtain ⟨s2, hs2, h⟩ := hq_bind h
  have t := hq_fx_tr t (hq_fx_pj hs2 (by first | decide | omega))
  obtain ⟨s3, hs3, h⟩ := hq_bind h
  have t := hq_fx_tr t (hq_fx_pi hs3 (by first | decide | omega))
  obtain ⟨s4, hs4, h⟩ := hq_bind h
  have t := hq_fx_tr t (hq_fx_cp hs4 (by first | decide | omega))
  obtain ⟨s5, hs5, h⟩ := hq_bind h
  have t := hq_fx_tr t (hq_fx_cp hs5 (by first | decide | omega))
  obtain ⟨s6, hs6, h⟩ := hq_bind h
  have t := hq_fx_tr t (hq_fx_cp hs6 (by first | decide | omega))
  obtain ⟨s7, hs7, h⟩ := hq_bind h
  have t := hq_fx_tr t (hq_fx_cp hs7 (by first | decide | omega))
  obtain ⟨s8, hs8, h⟩ := hq_bind h
  have t := hq_fx_tr t (hq_fx_cp hs8 (by first | decide | omega))
  obtain ⟨s9, hs9, h⟩ := hq_bind h
  have t := hq_fx_tr t (hq_fx_cp hs9 (by first | decide | omega))
  obtain ⟨s10, hs10, h⟩ := hq_bind h
  have t := hq_fx_tr t (hq_fx_cp hs10 (by first | decide | omega))
  obtain ⟨s11, hs11, h⟩ := hq_bind h
  have t := hq_fx_tr t (hq_fx_cp hs11 (by first | decide | omega))
  have h := Option.some.inj h
  subst h
  exact t
theorem f_X3_restart_fr {n : Nat} {k1 : Nat} {a2 : Int32} {a3 : Int32} {s : hq_S} {y : hq_S} (m1_ : hq_isN k1) (h : f_X3_restart n k1 a2 a3 s = some y) : hq_fx s y := by
  unfold f_X3_restart at h
  have bm1_ := hq_leN m1_
  have t := hq_fx_rf s
  have m1 : hq_isN (hq_gr s 113 2) := hq_ifT h
  have bm1 := hq_leN m1
  rw [if_pos m1] at h
  obtain ⟨s2, hs2, h⟩ := hq_bind h
  have t := hq_fx_tr t (f_X5_copyFrom_fr m1 m1_ hs2)
  have m3 : hq_isN (hq_gr s2 113 2) := hq_ifT h
  have bm3 := hq_leN m3
  rw [if_pos m3] at h
  obtain ⟨s4, hs4, h⟩ := hq_bind h
  have t := hq_fx_tr t (hq_fx_st hs4 (by first | decide | omega))
  have h := Option.some.inj h
  subst h
  exact t
theorem f_X8_lanesBetween_fr {n : Nat} {k0 : Nat} {a1 : Int32} {a2 : Int32} {s : hq_S} {y : (Int32 × hq_S)} (m0_ : hq_isS k0) (h : f_X8_lanesBetween n k0 a1 a2 s = some y) : hq_fx s y.2 := by
  unfold f_X8_lanesBetween at h
  have bm0_ := hq_leS m0_
  have t := hq_fx_rf s
  obtain ⟨x1, hx1, h⟩ := hq_bind h
  have h := Option.some.inj h
  subst h
  exact t
theorem f_X8_onward_J41_fr {n : Nat} {k0 : Nat} {a1 : Int32} {a2 : Int32} {a3 : Int32} {q2 : Nat → Int32 → Int32 → Int32 → hq_S → Option (Int32 × hq_S)} {s : hq_S} {y : (Int32 × hq_S)} (e2 : ∀ (k0 : Nat) (a1 : Int32) (a2 : Int32) (a3 : Int32) (s : hq_S) (m0_ : hq_isS k0), q2 k0 a1 a2 a3 s = some y → hq_fx s y.2) (m0_ : hq_isS k0) (h : f_X8_onward_J41 n q2 k0 a1 a2 a3 s = some y) : hq_fx s y.2 := by
  unfold f_X8_onward_J41 at h
  have bm0_ := hq_leS m0_
  have t := hq_fx_rf s
  exact hq_fx_tr t (e2 k0 a1 a2 (a3 + (1 : Int32)) s m0_ h)
theorem f_X8_onward_L2_B_fr {n : Nat} {k0 : Nat} {a1 : Int32} {a2 : Int32} {a3 : Int32} {q2 : Nat → Int32 → Int32 → Int32 → hq_S → Option (Int32 × hq_S)} {s : hq_S} {y : (Int32 × hq_S)} (e2 : ∀ (k0 : Nat) (a1 : Int32) (a2 : Int32) (a3 : Int32) (s : hq_S) (m0_ : hq_isS k0), q2 k0 a1 a2 a3 s = some y → hq_fx s y.2) (m0_ : hq_isS k0) (h : f_X8_onward_L2_B n q2 k0 a1 a2 a3 s = some y) : hq_fx s y.2 := by
  unfold f_X8_onward_L2_B at h
  have bm0_ := hq_leS m0_
  have t := hq_fx_rf s
  by_cases c1 : a3 < (hq_gi s k0 0)
  · rw [if_pos c1] at h
    obtain ⟨x2, hx2, h⟩ := hq_bind h
    by_cases c3 : ((x2 >>> (a3 &&& 31)) &&& (1 : Int32)) = (1 : Int32)
    · rw [if_pos c3] at h
      obtain ⟨y4, hy4, h⟩ := hq_bind h
      have t := hq_fx_tr t (f_X8_lanesBetween_fr m0_ hy4)
      obtain ⟨y5, hy5, h⟩ := hq_bind h
      have t := hq_fx_tr t (f_X8_lanesBetween_fr m0_ hy5)
      by_cases c6 : y4.1 < y5.1
      · rw [if_pos c6] at h
        have h := Option.some.inj h
        subst h
        exact t
      · rw [if_neg c6] at h
        exact hq_fx_tr t (f_X8_onward_J41_fr e2 m0_ h)
    · rw [if_neg c3] at h
      exact hq_fx_tr t (f_X8_onward_J41_fr e2 m0_ h)
  · rw [if_neg c1] at h
    have h := Option.some.inj h
    subst h
    exact t
theorem f_X8_onward_L2_fr {n m : Nat} {k0 : Nat} {a1 : Int32} {a2 : Int32} {a3 : Int32} {s : hq_S} {y : (Int32 × hq_S)} (m0_ : hq_isS k0) (h : f_X8_onward_L2 n m k0 a1 a2 a3 s = some y) : hq_fx s y.2 := by
  induction m generalizing k0 a1 a2 a3 s with
  | zero => cases h
  | succ m ih => exact f_X8_onward_L2_B_fr (n := n) (k0 := k0) (a1 := a1) (a2 := a2) (a3 := a3) (q2 := f_X8_onward_L2 n m) (fun k0 a1 a2 a3 s m0_ h => ih m0_ h) m0_ h
theorem f_X8_onward_fr {n : Nat} {k0 : Nat} {a1 : Int32} {a2 : Int32} {s : hq_S} {y : (Int32 × hq_S)} (m0_ : hq_isS k0) (h : f_X8_onward n k0 a1 a2 s = some y) : hq_fx s y.2 := by
  unfold f_X8_onward at h
  have bm0_ := hq_leS m0_
  have t := hq_fx_rf s
  exact hq_fx_tr t (f_X8_onward_L2_fr m0_ h)
theorem f_X3_walkBeat_J93_fr {n : Nat} {a1 : Int32} {a2 : Int32} {s : hq_S} {y : hq_S} (h : f_X3_walkBeat_J93 n a1 a2 s = some y) : hq_fx s y := by
  unfold f_X3_walkBeat_J93 at h
  have t := hq_fx_rf s
  have m9 : hq_isS (hq_gr s 113 1) := hq_ifT h
  have bm9 := hq_leS m9
  rw [if_pos m9] at h
  have m10 : hq_isT (hq_gr s 113 0) := hq_ifT h
  have bm10 := hq_leT m10
  rw [if_pos m10] at h
  have m11 : hq_isN (hq_gr s 113 2) := hq_ifT h
  have bm11 := hq_leN m11
  rw [if_pos m11] at h
  obtain ⟨x12, hx12, h⟩ := hq_bind h
  obtain ⟨x13, hx13, h⟩ := hq_bind h
  obtain ⟨y14, hy14, h⟩ := hq_bind h
  have t := hq_fx_tr t (f_X8_onward_fr m9 hy14)
  have m15 : hq_isN (hq_gr y14.2 113 2) := hq_ifT h
  have bm15 := hq_leN m15
  rw [if_pos m15] at h
  obtain ⟨z16, hz16, h⟩ := hq_bind h
  obtain ⟨s18, hs18, h⟩ := hq_bind h
  have t := hq_fx_tr t (hq_fx_st hs18 (by first | decide | omega))
  have h := Option.some.inj h
  subst h
  exact t
theorem f_X3_walkBeat_fr {n : Nat} {a1 : Int32} {s : hq_S} {y : hq_S} (h : f_X3_walkBeat n a1 s = some y) : hq_fx s y := by
  unfold f_X3_walkBeat at h
  have t := hq_fx_rf s
  have m1 : hq_isN (hq_gr s 113 2) := hq_ifT h
  have bm1 := hq_leN m1
  rw [if_pos m1] at h
  obtain ⟨x2, hx2, h⟩ := hq_bind h
  have m3 : hq_isT (hq_gr s 113 0) := hq_ifT h
  have bm3 := hq_leT m3
  rw [if_pos m3] at h
  have m4 : hq_isN (hq_gr s 113 2) := hq_ifT h
  have bm4 := hq_leN m4
  rw [if_pos m4] at h
  obtain ⟨x5, hx5, h⟩ := hq_bind h
  obtain ⟨x6, hx6, h⟩ := hq_bind h
  by_cases c8 : x6 = x2
  · rw [if_pos c8] at h
    have m19 : hq_isN (hq_gr s 113 2) := hq_ifT h
    have bm19 := hq_leN m19
    rw [if_pos m19] at h
    obtain ⟨x20, hx20, h⟩ := hq_bind h
    have m21 : hq_isT (hq_gr s 113 0) := hq_ifT h
    have bm21 := hq_leT m21
    rw [if_pos m21] at h
    obtain ⟨x22, hx22, h⟩ := hq_bind h
    obtain ⟨z23, hz23, h⟩ := hq_bind h
    have m25 : hq_isN (hq_gr s 113 2) := hq_ifT h
    have bm25 := hq_leN m25
    rw [if_pos m25] at h
    obtain ⟨z26, hz26, h⟩ := hq_bind h
    obtain ⟨s30, hs30, h⟩ := hq_bind h
    have t := hq_fx_tr t (hq_fx_st hs30 (by first | decide | omega))
    exact hq_fx_tr t (f_X3_walkBeat_J93_fr h)
  · rw [if_neg c8] at h
    exact hq_fx_tr t (f_X3_walkBeat_J93_fr h)
theorem f_X3_walkBeats_L2_B_fr {n : Nat} {a1 : Int32} {q2 : Int32 → hq_S → Option hq_S} {s : hq_S} {y : hq_S} (e2 : ∀ (a1 : Int32) (s : hq_S), q2 a1 s = some y → hq_fx s y) (h : f_X3_walkBeats_L2_B n q2 a1 s = some y) : hq_fx s y := by
  unfold f_X3_walkBeats_L2_B at h
  have t := hq_fx_rf s
  have m1 : hq_isT (hq_gr s 113 0) := hq_ifT h
  have bm1 := hq_leT m1
  rw [if_pos m1] at h
  by_cases c2 : a1 < (hq_gi s (hq_gr s 113 0) 7)
  · rw [if_pos c2] at h
    have m3 : hq_isT (hq_gr s 113 0) := hq_ifT h
    have bm3 := hq_leT m3
    rw [if_pos m3] at h
    obtain ⟨x4, hx4, h⟩ := hq_bind h
    obtain ⟨z5, hz5, h⟩ := hq_bind h
    have t : hq_fx s z5 := by
      clear h
      have h := hz5
      by_cases c6 : 0 < x4
      · rw [if_pos c6] at h
        by_cases c7 : a1 = (hq_gi s 113 4)
        · rw [if_pos c7] at h
          cases h
          exact t
        · rw [if_neg c7] at h
          obtain ⟨s8, hs8, h⟩ := hq_bind h
          have t := hq_fx_tr t (f_X3_walkBeat_fr hs8)
          cases h
          exact t
      · rw [if_neg c6] at h
        cases h
        exact t
    exact hq_fx_tr t (e2 (a1 + (1 : Int32)) z5 h)
  · rw [if_neg c2] at h
    have h := Option.some.inj h
    subst h
    exact t
theorem f_X3_walkBeats_L2_fr {n m : Nat} {a1 : Int32} {s : hq_S} {y : hq_S} (h : f_X3_walkBeats_L2 n m a1 s = some y) : hq_fx s y := by
  induction m generalizing a1 s with
  | zero => cases h
  | succ m ih => exact f_X3_walkBeats_L2_B_fr (n := n) (a1 := a1) (q2 := f_X3_walkBeats_L2 n m) (fun a1 s h => ih h) h
theorem f_X3_walkBeats_fr {n : Nat} {s : hq_S} {y : hq_S} (h : f_X3_walkBeats n s = some y) : hq_fx s y := by
  unfold f_X3_walkBeats at h
  have t := hq_fx_rf s
  exact hq_fx_tr t (f_X3_walkBeats_L2_fr h)
theorem f_X5_isFree_fr {n : Nat} {k0 : Nat} {a1 : Int32} {s : hq_S} {y : (Int32 × hq_S)} (m0_ : hq_isN k0) (h : f_X5_isFree n k0 a1 s = some y) : hq_fx s y.2 := by
  unfold f_X5_isFree at h
  have bm0_ := hq_leN m0_
  have t := hq_fx_rf s
  obtain ⟨x1, hx1, h⟩ := hq_bind h
  by_cases c2 : x1 = (-2 : Int32)
  · rw [if_pos c2] at h
    have h := Option.some.inj h
    subst h
    exact t
  · rw [if_neg c2] at h
    have h := Option.some.inj h
    subst h
    exact t
theorem f_X4_isTold_fr {n : Nat} {k0 : Nat} {a1 : Int32} {s : hq_S} {y : (Int32 × hq_S)} (m0_ : hq_isL k0) (h : f_X4_isTold n k0 a1 s = some y) : hq_fx s y.2 := by
  unfold f_X4_isTold at h
  have bm0_ := hq_leL m0_
  have t := hq_fx_rf s
  obtain ⟨x1, hx1, h⟩ := hq_bind h
  by_cases c2 : 0 < x1
  · rw [if_pos c2] at h
    have h := Option.some.inj h
    subst h
    exact t
  · rw [if_neg c2] at h
    have h := Option.some.inj h
    subst h
    exact t
theorem f_X3_nearest_L5_B_fr {n : Nat} {a1 : Int32} {a2 : Int32} {a3 : Int32} {q5 : Int32 → Int32 → Int32 → hq_S → Option (Int32 × hq_S)} {s : hq_S} {y : (Int32 × hq_S)} (e5 : ∀ (a1 : Int32) (a2 : Int32) (a3 : Int32) (s : hq_S), q5 a1 a2 a3 s = some y → hq_fx s y.2) (h : f_X3_nearest_L5_B n q5 a1 a2 a3 s = some y) : hq_fx s y.2 := by
  unfold f_X3_nearest_L5_B at h
  have t := hq_fx_rf s
  have m1 : hq_isT (hq_gr s 113 0) := hq_ifT h
  have bm1 := hq_leT m1
  rw [if_pos m1] at h
  by_cases c2 : a3 < (hq_gi s (hq_gr s 113 0) 7)
  · rw [if_pos c2] at h
    have m3 : hq_isS (hq_gr s 113 1) := hq_ifT h
    have bm3 := hq_leS m3
    rw [if_pos m3] at h
    have m4 : hq_isN (hq_gr s 113 2) := hq_ifT h
    have bm4 := hq_leN m4
    rw [if_pos m4] at h
    obtain ⟨x5, hx5, h⟩ := hq_bind h
    obtain ⟨y6, hy6, h⟩ := hq_bind h
    have t := hq_fx_tr t (f_X8_lanesBetween_fr m3 hy6)
    exact hq_fx_tr t (e5 a1 (hq_min a2 y6.1) (a3 + (1 : Int32)) y6.2 h)
  · rw [if_neg c2] at h
    have h := Option.some.inj h
    subst h
    exact t
theorem f_X3_nearest_L5_fr {n m : Nat} {a1 : Int32} {a2 : Int32} {a3 : Int32} {s : hq_S} {y : (Int32 × hq_S)} (h : f_X3_nearest_L5 n m a1 a2 a3 s = some y) : hq_fx s y.2 := by
  induction m generalizing a1 a2 a3 s with
  | zero => cases h
  | succ m ih => exact f_X3_nearest_L5_B_fr (n := n) (a1 := a1) (a2 := a2) (a3 := a3) (q5 := f_X3_nearest_L5 n m) (fun a1 a2 a3 s h => ih h) h
theorem f_X3_nearest_fr {n : Nat} {a1 : Int32} {s : hq_S} {y : (Int32 × hq_S)} (h : f_X3_nearest n a1 s = some y) : hq_fx s y.2 := by
  unfold f_X3_nearest at h
  have t := hq_fx_rf s
  exact hq_fx_tr t (f_X3_nearest_L5_fr h)
theorem f_X4_joined_J332_fr {n : Nat} {a0 : Int32} {j1 : Int64} {j3 : Int64} {s : hq_S} {y : (Int64 × hq_S)} (h : f_X4_joined_J332 n a0 j1 j3 s = some y) : hq_fx s y.2 := by
  unfold f_X4_joined_J332 at h
  have t := hq_fx_rf s
  have h := Option.some.inj h
  subst h
  exact t
theorem f_X4_joined_J210_fr {n : Nat} {a0 : Int32} {j1 : Int64} {j3 : Int64} {s : hq_S} {y : (Int64 × hq_S)} (h : f_X4_joined_J210 n a0 j1 j3 s = some y) : hq_fx s y.2 := by
  unfold f_X4_joined_J210 at h
  have t := hq_fx_rf s
  have h := Option.some.inj h
  subst h
  exact t
theorem f_X4_joined_J128_fr {n : Nat} {a0 : Int32} {j1 : Int64} {j3 : Int64} {s : hq_S} {y : (Int64 × hq_S)} (h : f_X4_joined_J128 n a0 j1 j3 s = some y) : hq_fx s y.2 := by
  unfold f_X4_joined_J128 at h
  have t := hq_fx_rf s
  have h := Option.some.inj h
  subst h
  exact t
theorem f_X4_joined_J158_fr {n : Nat} {a0 : Int32} {j1 : Int64} {j3 : Int64} {s : hq_S} {y : (Int64 × hq_S)} (h : f_X4_joined_J158 n a0 j1 j3 s = some y) : hq_fx s y.2 := by
  unfold f_X4_joined_J158 at h
  have t := hq_fx_rf s
  have h := Option.some.inj h
  subst h
  exact t
theorem f_X4_joined_fr {n : Nat} {a0 : Int32} {j1 : Int64} {j3 : Int64} {s : hq_S} {y : (Int64 × hq_S)} (h : f_X4_joined n a0 j1 j3 s = some y) : hq_fx s y.2 := by
  unfold f_X4_joined at h
  have t := hq_fx_rf s
  by_cases c1 : a0 = (19 : Int32)
  · rw [if_pos c1] at h
    by_cases c2 : (lg_cmp j1 (0 : Int64)) = 0
    · rw [if_pos c2] at h
      have h := Option.some.inj h
      subst h
      exact t
    · rw [if_neg c2] at h
      by_cases c3 : (lg_cmp j3 (0 : Int64)) = 0
      · rw [if_pos c3] at h
        have h := Option.some.inj h
        subst h
        exact t
      · rw [if_neg c3] at h
        have h := Option.some.inj h
        subst h
        exact t
  rw [if_neg c1] at h
  by_cases c4 : a0 = (20 : Int32)
  · rw [if_pos c4] at h
    by_cases c5 : (lg_cmp j1 (0 : Int64)) = 0
    · rw [if_pos c5] at h
      by_cases c6 : (lg_cmp j3 (0 : Int64)) = 0
      · rw [if_pos c6] at h
        have h := Option.some.inj h
        subst h
        exact t
      · rw [if_neg c6] at h
        exact hq_fx_tr t (f_X4_joined_J332_fr h)
    · rw [if_neg c5] at h
      exact hq_fx_tr t (f_X4_joined_J332_fr h)
  rw [if_neg c4] at h
  by_cases c7 : a0 = (42 : Int32)
  · rw [if_pos c7] at h
    by_cases c8 : (lg_cmp j3 (0 : Int64)) = 0
    · rw [if_pos c8] at h
      exact hq_fx_tr t (f_X4_joined_J210_fr h)
    · rw [if_neg c8] at h
      obtain ⟨z9, hz9, h⟩ := hq_bind h
      obtain ⟨x11, hx11, h⟩ := hq_bind h
      obtain ⟨z12, hz12, h⟩ := hq_bind h
      by_cases c14 : (lg_cmp x11 z12) < 0
      · rw [if_pos c14] at h
        have h := Option.some.inj h
        subst h
        exact t
      · rw [if_neg c14] at h
        exact hq_fx_tr t (f_X4_joined_J210_fr h)
  rw [if_neg c7] at h
  by_cases c15 : a0 = (43 : Int32)
  · rw [if_pos c15] at h
    by_cases c16 : 0 < (lg_cmp (j1 + j3) (1000000000000 : Int64))
    · rw [if_pos c16] at h
      exact hq_fx_tr t (f_X4_joined_J128_fr h)
    · rw [if_neg c16] at h
      by_cases c17 : (lg_cmp (j1 + j3) (-1000000000000 : Int64)) < 0
      · rw [if_pos c17] at h
        exact hq_fx_tr t (f_X4_joined_J128_fr h)
      · rw [if_neg c17] at h
        have h := Option.some.inj h
        subst h
        exact t
  rw [if_neg c15] at h
  by_cases c18 : a0 = (45 : Int32)
  · rw [if_pos c18] at h
    by_cases c19 : 0 < (lg_cmp (j1 - j3) (1000000000000 : Int64))
    · rw [if_pos c19] at h
      exact hq_fx_tr t (f_X4_joined_J158_fr h)
    · rw [if_neg c19] at h
      by_cases c20 : (lg_cmp (j1 - j3) (-1000000000000 : Int64)) < 0
      · rw [if_pos c20] at h
        exact hq_fx_tr t (f_X4_joined_J158_fr h)
      · rw [if_neg c20] at h
        have h := Option.some.inj h
        subst h
        exact t
  rw [if_neg c18] at h
  by_cases c21 : a0 = (47 : Int32)
  · rw [if_pos c21] at h
    by_cases c22 : (lg_cmp j3 (0 : Int64)) = 0
    · rw [if_pos c22] at h
      have h := Option.some.inj h
      subst h
      exact t
    · rw [if_neg c22] at h
      obtain ⟨x23, hx23, h⟩ := hq_bind h
      have h := Option.some.inj h
      subst h
      exact t
  rw [if_neg c21] at h
  by_cases c24 : a0 = (60 : Int32)
  · rw [if_pos c24] at h
    by_cases c25 : (lg_cmp j1 j3) < 0
    · rw [if_pos c25] at h
      have h := Option.some.inj h
      subst h
      exact t
    · rw [if_neg c25] at h
      have h := Option.some.inj h
      subst h
      exact t
  rw [if_neg c24] at h
  by_cases c26 : a0 = (61 : Int32)
  · rw [if_pos c26] at h
    by_cases c27 : (lg_cmp j1 j3) = 0
    · rw [if_pos c27] at h
      have h := Option.some.inj h
      subst h
      exact t
    · rw [if_neg c27] at h
      have h := Option.some.inj h
      subst h
      exact t
  rw [if_neg c26] at h
  by_cases c28 : a0 = (62 : Int32)
  · rw [if_pos c28] at h
    by_cases c29 : 0 < (lg_cmp j1 j3)
    · rw [if_pos c29] at h
      have h := Option.some.inj h
      subst h
      exact t
    · rw [if_neg c29] at h
      have h := Option.some.inj h
      subst h
      exact t
  rw [if_neg c28] at h
  by_cases c30 : a0 = (256 : Int32)
  · rw [if_pos c30] at h
    by_cases c31 : 0 < (lg_cmp j1 j3)
    · rw [if_pos c31] at h
      have h := Option.some.inj h
      subst h
      exact t
    · rw [if_neg c31] at h
      have h := Option.some.inj h
      subst h
      exact t
  rw [if_neg c30] at h
  by_cases c32 : a0 = (257 : Int32)
  · rw [if_pos c32] at h
    by_cases c33 : (lg_cmp j1 j3) = 0
    · rw [if_pos c33] at h
      have h := Option.some.inj h
      subst h
      exact t
    · rw [if_neg c33] at h
      have h := Option.some.inj h
      subst h
      exact t
  rw [if_neg c32] at h
  by_cases c34 : a0 = (258 : Int32)
  · rw [if_pos c34] at h
    by_cases c35 : (lg_cmp j1 j3) < 0
    · rw [if_pos c35] at h
      have h := Option.some.inj h
      subst h
      exact t
    · rw [if_neg c35] at h
      have h := Option.some.inj h
      subst h
      exact t
  rw [if_neg c34] at h
  have h := Option.some.inj h
  subst h
  exact t
theorem f_X4_valueOf_J171_fr {n : Nat} {k0 : Nat} {a1 : Int32} {k2 : Nat} {a3 : Int32} {a4 : Int32} {a5 : Int32} {q10 : Nat → Int32 → Nat → Int32 → Int32 → hq_S → Option (Int64 × hq_S)} {s : hq_S} {y : (Int64 × hq_S)} (e10 : ∀ (k0 : Nat) (a1 : Int32) (k2 : Nat) (a3 : Int32) (a4 : Int32) (o5 : Option Value) (s : hq_S) (m0_ : hq_isL k0) (wk2 : k2 < 174), q10 k0 a1 k2 a3 a4 s = some y → hq_fx s y.2) (m0_ : hq_isL k0) (wk2 : k2 < 174) (h : f_X4_valueOf_J171 n q10 k0 a1 k2 a3 a4 a5 s = some y) : hq_fx s y.2 := by
  unfold f_X4_valueOf_J171 at h
  have bm0_ := hq_leL m0_
  have t := hq_fx_rf s
  exact hq_fx_tr t (e10 k0 a1 k2 a3 (a4 + (1 : Int32)) none s m0_ (by first | decide | omega) h)
theorem f_X4_valueOf_J113_fr {n : Nat} {k0 : Nat} {a1 : Int32} {k2 : Nat} {a3 : Int32} {a4 : Int32} {a5 : Int32} {q10 : Nat → Int32 → Nat → Int32 → Int32 → hq_S → Option (Int64 × hq_S)} {s : hq_S} {y : (Int64 × hq_S)} (e10 : ∀ (k0 : Nat) (a1 : Int32) (k2 : Nat) (a3 : Int32) (a4 : Int32) (o5 : Option Value) (s : hq_S) (m0_ : hq_isL k0) (wk2 : k2 < 174), q10 k0 a1 k2 a3 a4 s = some y → hq_fx s y.2) (m0_ : hq_isL k0) (wk2 : k2 < 174) (h : f_X4_valueOf_J113 n q10 k0 a1 k2 a3 a4 a5 s = some y) : hq_fx s y.2 := by
  unfold f_X4_valueOf_J113 at h
  have bm0_ := hq_leL m0_
  have t := hq_fx_rf s
  by_cases c9 : (1 : Int32) < a3
  · rw [if_pos c9] at h
    obtain ⟨x10, hx10, h⟩ := hq_bind h
    obtain ⟨x11, hx11, h⟩ := hq_bind h
    obtain ⟨y12, hy12, h⟩ := hq_bind h
    have t := hq_fx_tr t (f_X4_joined_fr hy12)
    obtain ⟨s13, hs13, h⟩ := hq_bind h
    have t := hq_fx_tr t (hq_fx_stj hs13 (by first | decide | omega))
    obtain ⟨x14, hx14, h⟩ := hq_bind h
    by_cases c15 : (lg_cmp x14 (-9223372036854775808 : Int64)) = 0
    · rw [if_pos c15] at h
      have h := Option.some.inj h
      subst h
      exact t
    · rw [if_neg c15] at h
      exact hq_fx_tr t (f_X4_valueOf_J171_fr e10 m0_ (by first | decide | omega) h)
  · rw [if_neg c9] at h
    exact hq_fx_tr t (f_X4_valueOf_J171_fr e10 m0_ (by first | decide | omega) h)
theorem f_X4_valueOf_L10_B_fr {n : Nat} {k0 : Nat} {a1 : Int32} {k2 : Nat} {a3 : Int32} {a4 : Int32} {q10 : Nat → Int32 → Nat → Int32 → Int32 → hq_S → Option (Int64 × hq_S)} {s : hq_S} {y : (Int64 × hq_S)} (e10 : ∀ (k0 : Nat) (a1 : Int32) (k2 : Nat) (a3 : Int32) (a4 : Int32) (o5 : Option Value) (s : hq_S) (m0_ : hq_isL k0) (wk2 : k2 < 174), q10 k0 a1 k2 a3 a4 s = some y → hq_fx s y.2) (m0_ : hq_isL k0) (wk2 : k2 < 174) (h : f_X4_valueOf_L10_B n q10 k0 a1 k2 a3 a4 s = some y) : hq_fx s y.2 := by
  unfold f_X4_valueOf_L10_B at h
  have bm0_ := hq_leL m0_
  have t := hq_fx_rf s
  obtain ⟨x2, hx2, h⟩ := hq_bind h
  by_cases c3 : a4 < x2
  · rw [if_pos c3] at h
    obtain ⟨x6, hx6, h⟩ := hq_bind h
    by_cases c7 : x6 < (20000 : Int32)
    · rw [if_pos c7] at h
      obtain ⟨z21, hz21, h⟩ := hq_bind h
      obtain ⟨s24, hs24, h⟩ := hq_bind h
      have t := hq_fx_tr t (hq_fx_stj hs24 (by first | decide | omega))
      exact hq_fx_tr t (f_X4_valueOf_J171_fr e10 m0_ (by first | decide | omega) h)
    · rw [if_neg c7] at h
      by_cases c8 : x6 = (20021 : Int32)
      · rw [if_pos c8] at h
        by_cases c16 : 0 < a3
        · rw [if_pos c16] at h
          obtain ⟨x17, hx17, h⟩ := hq_bind h
          obtain ⟨z18, hz18, h⟩ := hq_bind h
          obtain ⟨s20, hs20, h⟩ := hq_bind h
          have t := hq_fx_tr t (hq_fx_stj hs20 (by first | decide | omega))
          exact hq_fx_tr t (f_X4_valueOf_J171_fr e10 m0_ (by first | decide | omega) h)
        · rw [if_neg c16] at h
          exact hq_fx_tr t (f_X4_valueOf_J113_fr e10 m0_ (by first | decide | omega) h)
      · rw [if_neg c8] at h
        exact hq_fx_tr t (f_X4_valueOf_J113_fr e10 m0_ (by first | decide | omega) h)
  · rw [if_neg c3] at h
    by_cases c4 : a3 = (1 : Int32)
    · rw [if_pos c4] at h
      obtain ⟨x5, hx5, h⟩ := hq_bind h
      have h := Option.some.inj h
      subst h
      exact t
    · rw [if_neg c4] at h
      have h := Option.some.inj h
      subst h
      exact t
theorem f_X4_valueOf_L10_fr {n m : Nat} {k0 : Nat} {a1 : Int32} {k2 : Nat} {a3 : Int32} {a4 : Int32} {s : hq_S} {y : (Int64 × hq_S)} (m0_ : hq_isL k0) (wk2 : k2 < 174) (h : f_X4_valueOf_L10 n m k0 a1 k2 a3 a4 s = some y) : hq_fx s y.2 := by
  induction m generalizing k0 a1 k2 a3 a4 s with
  | zero => cases h
  | succ m ih => exact f_X4_valueOf_L10_B_fr (n := n) (k0 := k0) (a1 := a1) (k2 := k2) (a3 := a3) (a4 := a4) (q10 := f_X4_valueOf_L10 n m) (fun k0 a1 k2 a3 a4 _ s m0_ wk2 h => ih m0_ wk2 h) m0_ wk2 h
theorem f_X4_valueOf_fr {n : Nat} {k0 : Nat} {a1 : Int32} {k2 : Nat} {s : hq_S} {y : (Int64 × hq_S)} (m0_ : hq_isL k0) (wk2 : k2 < 174) (h : f_X4_valueOf n k0 a1 k2 s = some y) : hq_fx s y.2 := by
  unfold f_X4_valueOf at h
  have bm0_ := hq_leL m0_
  have t := hq_fx_rf s
  obtain ⟨x1, hx1, h⟩ := hq_bind h
  exact hq_fx_tr t (f_X4_valueOf_L10_fr m0_ (by first | decide | omega) h)
theorem f_X3_lawValue_L24_B_fr {n : Nat} {a1 : Int32} {a2 : Int32} {a3 : Int32} {a4 : Int32} {a5 : Int32} {q24 : Int32 → Int32 → Int32 → Int32 → Int32 → hq_S → Option (Int64 × hq_S)} {s : hq_S} {y : (Int64 × hq_S)} (e24 : ∀ (a1 : Int32) (a2 : Int32) (a3 : Int32) (a4 : Int32) (a5 : Int32) (s : hq_S), q24 a1 a2 a3 a4 a5 s = some y → hq_fx s y.2) (h : f_X3_lawValue_L24_B n q24 a1 a2 a3 a4 a5 s = some y) : hq_fx s y.2 := by
  unfold f_X3_lawValue_L24_B at h
  have t := hq_fx_rf s
  have m4 : hq_isT (hq_gr s 113 0) := hq_ifT h
  have bm4 := hq_leT m4
  rw [if_pos m4] at h
  by_cases c5 : a5 < (hq_gi s (hq_gr s 113 0) 7)
  · rw [if_pos c5] at h
    have m25 : hq_isN (hq_gr s 113 2) := hq_ifT h
    have bm25 := hq_leN m25
    rw [if_pos m25] at h
    obtain ⟨x26, hx26, h⟩ := hq_bind h
    obtain ⟨z27, hz27, h⟩ := hq_bind h
    exact hq_fx_tr t (e24 a1 a2 a3 (a4 + z27) (a5 + (1 : Int32)) s h)
  · rw [if_neg c5] at h
    have m6 : hq_isT (hq_gr s 113 0) := hq_ifT h
    have bm6 := hq_leT m6
    rw [if_pos m6] at h
    obtain ⟨x7, hx7, h⟩ := hq_bind h
    obtain ⟨s8, hs8, h⟩ := hq_bind h
    have t := hq_fx_tr t (hq_fx_stj hs8 (by first | decide | omega))
    obtain ⟨y9, hy9, h⟩ := hq_bind h
    have t := hq_fx_tr t (f_X3_nearest_fr hy9)
    obtain ⟨s10, hs10, h⟩ := hq_bind h
    have t := hq_fx_tr t (hq_fx_stj hs10 (by first | decide | omega))
    have m11 : hq_isN (hq_gr s10 113 2) := hq_ifT h
    have bm11 := hq_leN m11
    rw [if_pos m11] at h
    obtain ⟨x12, hx12, h⟩ := hq_bind h
    obtain ⟨s13, hs13, h⟩ := hq_bind h
    have t := hq_fx_tr t (hq_fx_stj hs13 (by first | decide | omega))
    have m14 : hq_isN (hq_gr s13 113 2) := hq_ifT h
    have bm14 := hq_leN m14
    rw [if_pos m14] at h
    obtain ⟨x15, hx15, h⟩ := hq_bind h
    obtain ⟨s16, hs16, h⟩ := hq_bind h
    have t := hq_fx_tr t (hq_fx_stj hs16 (by first | decide | omega))
    have m17 : hq_isN (hq_gr s16 113 2) := hq_ifT h
    have bm17 := hq_leN m17
    rw [if_pos m17] at h
    obtain ⟨x18, hx18, h⟩ := hq_bind h
    obtain ⟨s19, hs19, h⟩ := hq_bind h
    have t := hq_fx_tr t (hq_fx_stj hs19 (by first | decide | omega))
    obtain ⟨s20, hs20, h⟩ := hq_bind h
    have t := hq_fx_tr t (hq_fx_stj hs20 (by first | decide | omega))
    have m21 : hq_isN (hq_gr s20 113 2) := hq_ifT h
    have bm21 := hq_leN m21
    rw [if_pos m21] at h
    obtain ⟨s22, hs22, h⟩ := hq_bind h
    have t := hq_fx_tr t (hq_fx_stj hs22 (by first | decide | omega))
    have m23 : hq_isT (hq_gr s22 113 0) := hq_ifT h
    have bm23 := hq_leT m23
    rw [if_pos m23] at h
    obtain ⟨y24, hy24, h⟩ := hq_bind h
    have t := hq_fx_tr t (f_X4_valueOf_fr (hq_shT_m9 m23) (by first | decide | omega) hy24)
    have h := Option.some.inj h
    subst h
    exact t
theorem f_X3_lawValue_L24_fr {n m : Nat} {a1 : Int32} {a2 : Int32} {a3 : Int32} {a4 : Int32} {a5 : Int32} {s : hq_S} {y : (Int64 × hq_S)} (h : f_X3_lawValue_L24 n m a1 a2 a3 a4 a5 s = some y) : hq_fx s y.2 := by
  induction m generalizing a1 a2 a3 a4 a5 s with
  | zero => cases h
  | succ m ih => exact f_X3_lawValue_L24_B_fr (n := n) (a1 := a1) (a2 := a2) (a3 := a3) (a4 := a4) (a5 := a5) (q24 := f_X3_lawValue_L24 n m) (fun a1 a2 a3 a4 a5 s h => ih h) h
theorem f_X3_lawValue_fr {n : Nat} {a1 : Int32} {a2 : Int32} {a3 : Int32} {s : hq_S} {y : (Int64 × hq_S)} (h : f_X3_lawValue n a1 a2 a3 s = some y) : hq_fx s y.2 := by
  unfold f_X3_lawValue at h
  have t := hq_fx_rf s
  have m1 : hq_isT (hq_gr s 113 0) := hq_ifT h
  have bm1 := hq_leT m1
  rw [if_pos m1] at h
  obtain ⟨y2, hy2, h⟩ := hq_bind h
  have t := hq_fx_tr t (f_X4_isTold_fr (hq_shT_m9 m1) hy2)
  by_cases c3 : y2.1 = 0
  · rw [if_pos c3] at h
    have h := Option.some.inj h
    subst h
    exact t
  · rw [if_neg c3] at h
    exact hq_fx_tr t (f_X3_lawValue_L24_fr h)
theorem f_X3_stirs_fr {n : Nat} {a1 : Int32} {s : hq_S} {y : (Int32 × hq_S)} (h : f_X3_stirs n a1 s = some y) : hq_fx s y.2 := by
  unfold f_X3_stirs at h
  have t := hq_fx_rf s
  by_cases c1 : (hq_gi s 113 5) = 0
  · rw [if_pos c1] at h
    have h := Option.some.inj h
    subst h
    exact t
  · rw [if_neg c1] at h
    have m2 : hq_isN (hq_gr s 113 2) := hq_ifT h
    have bm2 := hq_leN m2
    rw [if_pos m2] at h
    obtain ⟨x3, hx3, h⟩ := hq_bind h
    obtain ⟨y4, hy4, h⟩ := hq_bind h
    have t := hq_fx_tr t (f_X3_lawValue_fr hy4)
    by_cases c5 : (lg_cmp y4.1 (0 : Int64)) = 0
    · rw [if_pos c5] at h
      have h := Option.some.inj h
      subst h
      exact t
    · rw [if_neg c5] at h
      have h := Option.some.inj h
      subst h
      exact t
theorem f_X3_dread_fr {n : Nat} {a1 : Int32} {a2 : Int32} {s : hq_S} {y : (Int64 × hq_S)} (h : f_X3_dread n a1 a2 s = some y) : hq_fx s y.2 := by
  unfold f_X3_dread at h
  have t := hq_fx_rf s
  obtain ⟨y1, hy1, h⟩ := hq_bind h
  have t := hq_fx_tr t (f_X3_lawValue_fr hy1)
  by_cases c2 : (lg_cmp y1.1 (-9223372036854775808 : Int64)) = 0
  · rw [if_pos c2] at h
    have m3 : hq_isT (hq_gr y1.2 113 0) := hq_ifT h
    have bm3 := hq_leT m3
    rw [if_pos m3] at h
    obtain ⟨x4, hx4, h⟩ := hq_bind h
    obtain ⟨y5, hy5, h⟩ := hq_bind h
    have t := hq_fx_tr t (f_X3_nearest_fr hy5)
    have h := Option.some.inj h
    subst h
    exact t
  · rw [if_neg c2] at h
    have h := Option.some.inj h
    subst h
    exact t
theorem f_X3_goWhereDreadIsLeast_J86_fr {n : Nat} {a1 : Int32} {a2 : Int32} {a3 : Int32} {j4 : Int64} {a6 : Int32} {q23 : Int32 → Int32 → Int32 → Int64 → Int32 → hq_S → Option hq_S} {s : hq_S} {y : hq_S} (e23 : ∀ (a1 : Int32) (a2 : Int32) (a3 : Int32) (j4 : Int64) (a6 : Int32) (o7 : Option Value) (s : hq_S), q23 a1 a2 a3 j4 a6 s = some y → hq_fx s y) (h : f_X3_goWhereDreadIsLeast_J86 n q23 a1 a2 a3 j4 a6 s = some y) : hq_fx s y := by
  unfold f_X3_goWhereDreadIsLeast_J86 at h
  have t := hq_fx_rf s
  exact hq_fx_tr t (e23 a1 a2 a3 j4 (a6 + (1 : Int32)) none s h)
theorem f_X3_goWhereDreadIsLeast_L23_B_fr {n : Nat} {a1 : Int32} {a2 : Int32} {a3 : Int32} {j4 : Int64} {a6 : Int32} {q23 : Int32 → Int32 → Int32 → Int64 → Int32 → hq_S → Option hq_S} {s : hq_S} {y : hq_S} (e23 : ∀ (a1 : Int32) (a2 : Int32) (a3 : Int32) (j4 : Int64) (a6 : Int32) (o7 : Option Value) (s : hq_S), q23 a1 a2 a3 j4 a6 s = some y → hq_fx s y) (h : f_X3_goWhereDreadIsLeast_L23_B n q23 a1 a2 a3 j4 a6 s = some y) : hq_fx s y := by
  unfold f_X3_goWhereDreadIsLeast_L23_B at h
  have t := hq_fx_rf s
  have m4 : hq_isT (hq_gr s 113 0) := hq_ifT h
  have bm4 := hq_leT m4
  rw [if_pos m4] at h
  by_cases c5 : a6 < (hq_gi s (hq_gr s 113 0) 0)
  · rw [if_pos c5] at h
    have m8 : hq_isS (hq_gr s 113 1) := hq_ifT h
    have bm8 := hq_leS m8
    rw [if_pos m8] at h
    obtain ⟨x9, hx9, h⟩ := hq_bind h
    by_cases c11 : ((x9 >>> (a6 &&& 31)) &&& (1 : Int32)) = (1 : Int32)
    · rw [if_pos c11] at h
      obtain ⟨y12, hy12, h⟩ := hq_bind h
      have t := hq_fx_tr t (f_X3_dread_fr hy12)
      obtain ⟨z13, hz13, h⟩ := hq_bind h
      exact hq_fx_tr t (f_X3_goWhereDreadIsLeast_J86_fr e23 h)
    · rw [if_neg c11] at h
      exact hq_fx_tr t (f_X3_goWhereDreadIsLeast_J86_fr e23 h)
  · rw [if_neg c5] at h
    have m6 : hq_isN (hq_gr s 113 2) := hq_ifT h
    have bm6 := hq_leN m6
    rw [if_pos m6] at h
    obtain ⟨s7, hs7, h⟩ := hq_bind h
    have t := hq_fx_tr t (hq_fx_st hs7 (by first | decide | omega))
    have h := Option.some.inj h
    subst h
    exact t
theorem f_X3_goWhereDreadIsLeast_L23_fr {n m : Nat} {a1 : Int32} {a2 : Int32} {a3 : Int32} {j4 : Int64} {a6 : Int32} {s : hq_S} {y : hq_S} (h : f_X3_goWhereDreadIsLeast_L23 n m a1 a2 a3 j4 a6 s = some y) : hq_fx s y := by
  induction m generalizing a1 a2 a3 j4 a6 s with
  | zero => cases h
  | succ m ih => exact f_X3_goWhereDreadIsLeast_L23_B_fr (n := n) (a1 := a1) (a2 := a2) (a3 := a3) (j4 := j4) (a6 := a6) (q23 := f_X3_goWhereDreadIsLeast_L23 n m) (fun a1 a2 a3 j4 a6 _ s h => ih h) h
theorem f_X3_goWhereDreadIsLeast_fr {n : Nat} {a1 : Int32} {s : hq_S} {y : hq_S} (h : f_X3_goWhereDreadIsLeast n a1 s = some y) : hq_fx s y := by
  unfold f_X3_goWhereDreadIsLeast at h
  have t := hq_fx_rf s
  have m1 : hq_isN (hq_gr s 113 2) := hq_ifT h
  have bm1 := hq_leN m1
  rw [if_pos m1] at h
  obtain ⟨x2, hx2, h⟩ := hq_bind h
  obtain ⟨y3, hy3, h⟩ := hq_bind h
  have t := hq_fx_tr t (f_X3_dread_fr hy3)
  exact hq_fx_tr t (f_X3_goWhereDreadIsLeast_L23_fr h)
theorem f_X3_draw_fr {n : Nat} {s : hq_S} {y : (Int64 × hq_S)} (h : f_X3_draw n s = some y) : hq_fx s y.2 := by
  unfold f_X3_draw at h
  have t := hq_fx_rf s
  have m1 : hq_isN (hq_gr s 113 2) := hq_ifT h
  have bm1 := hq_leN m1
  rw [if_pos m1] at h
  have m2 : hq_isN (hq_gr s 113 2) := hq_ifT h
  have bm2 := hq_leN m2
  rw [if_pos m2] at h
  obtain ⟨s3, hs3, h⟩ := hq_bind h
  have t := hq_fx_tr t (hq_fx_pj hs3 (by first | decide | omega))
  have m4 : hq_isN (hq_gr s3 113 2) := hq_ifT h
  have bm4 := hq_leN m4
  rw [if_pos m4] at h
  obtain ⟨x5, hx5, h⟩ := hq_bind h
  have h := Option.some.inj h
  subst h
  exact t
theorem f_X3_gripHolds_J96_fr {n : Nat} {s : hq_S} {y : (Int32 × hq_S)} (h : f_X3_gripHolds_J96 n s = some y) : hq_fx s y.2 := by
  unfold f_X3_gripHolds_J96 at h
  have t := hq_fx_rf s
  have h := Option.some.inj h
  subst h
  exact t
theorem f_X3_gripHolds_fr {n : Nat} {s : hq_S} {y : (Int32 × hq_S)} (h : f_X3_gripHolds n s = some y) : hq_fx s y.2 := by
  unfold f_X3_gripHolds at h
  have t := hq_fx_rf s
  by_cases c1 : (hq_gi s 113 3) = (1 : Int32)
  · rw [if_pos c1] at h
    have m2 : hq_isT (hq_gr s 113 0) := hq_ifT h
    have bm2 := hq_leT m2
    rw [if_pos m2] at h
    by_cases c3 : (hq_gi s (hq_gr s 113 0) 13) < (50 : Int32)
    · rw [if_pos c3] at h
      have h := Option.some.inj h
      subst h
      exact t
    · rw [if_neg c3] at h
      have h := Option.some.inj h
      subst h
      exact t
  rw [if_neg c1] at h
  by_cases c4 : (hq_gi s 113 3) = (2 : Int32)
  · rw [if_pos c4] at h
    have h := Option.some.inj h
    subst h
    exact t
  rw [if_neg c4] at h
  by_cases c5 : (hq_gi s 113 3) = (3 : Int32)
  · rw [if_pos c5] at h
    have h := Option.some.inj h
    subst h
    exact t
  rw [if_neg c5] at h
  have m6 : hq_isT (hq_gr s 113 0) := hq_ifT h
  have bm6 := hq_leT m6
  rw [if_pos m6] at h
  by_cases c7 : (hq_gi s (hq_gr s 113 0) 13) = (100 : Int32)
  · rw [if_pos c7] at h
    exact hq_fx_tr t (f_X3_gripHolds_J96_fr h)
  · rw [if_neg c7] at h
    have m8 : hq_isT (hq_gr s 113 0) := hq_ifT h
    have bm8 := hq_leT m8
    rw [if_pos m8] at h
    by_cases c9 : 0 < (hq_gi s (hq_gr s 113 0) 13)
    · rw [if_pos c9] at h
      obtain ⟨y10, hy10, h⟩ := hq_bind h
      have t := hq_fx_tr t (f_X3_draw_fr hy10)
      obtain ⟨x11, hx11, h⟩ := hq_bind h
      have m12 : hq_isT (hq_gr y10.2 113 0) := hq_ifT h
      have bm12 := hq_leT m12
      rw [if_pos m12] at h
      by_cases c13 : (lg_cmp x11 (hq_gi y10.2 (hq_gr y10.2 113 0) 13).toInt64) < 0
      · rw [if_pos c13] at h
        exact hq_fx_tr t (f_X3_gripHolds_J96_fr h)
      · rw [if_neg c13] at h
        have h := Option.some.inj h
        subst h
        exact t
    · rw [if_neg c9] at h
      have h := Option.some.inj h
      subst h
      exact t
theorem f_X3_catchBy_L2_B_fr {n : Nat} {a1 : Int32} {a2 : Int32} {q2 : Int32 → Int32 → hq_S → Option hq_S} {s : hq_S} {y : hq_S} (e2 : ∀ (a1 : Int32) (a2 : Int32) (o3 : Option Value) (s : hq_S), q2 a1 a2 s = some y → hq_fx s y) (h : f_X3_catchBy_L2_B n q2 a1 a2 s = some y) : hq_fx s y := by
  unfold f_X3_catchBy_L2_B at h
  have t := hq_fx_rf s
  have m1 : hq_isT (hq_gr s 113 0) := hq_ifT h
  have bm1 := hq_leT m1
  rw [if_pos m1] at h
  by_cases c2 : a2 < (hq_gi s (hq_gr s 113 0) 11)
  · rw [if_pos c2] at h
    have m3 : hq_isN (hq_gr s 113 2) := hq_ifT h
    have bm3 := hq_leN m3
    rw [if_pos m3] at h
    obtain ⟨y4, hy4, h⟩ := hq_bind h
    have t := hq_fx_tr t (f_X5_isFree_fr m3 hy4)
    obtain ⟨z5, hz5, h⟩ := hq_bind h
    obtain ⟨z12, hz12, h⟩ := hq_bind h
    have t : hq_fx s z12 := by
      clear h
      have h := hz12
      by_cases c13 : z5 = 0
      · rw [if_pos c13] at h
        cases h
        exact t
      · rw [if_neg c13] at h
        obtain ⟨y14, hy14, h⟩ := hq_bind h
        have t := hq_fx_tr t (f_X3_gripHolds_fr hy14)
        by_cases c15 : y14.1 = 0
        · rw [if_pos c15] at h
          cases h
          exact t
        · rw [if_neg c15] at h
          have m16 : hq_isN (hq_gr y14.2 113 2) := hq_ifT h
          have bm16 := hq_leN m16
          rw [if_pos m16] at h
          obtain ⟨s17, hs17, h⟩ := hq_bind h
          have t := hq_fx_tr t (hq_fx_st hs17 (by first | decide | omega))
          have m18 : hq_isN (hq_gr s17 113 2) := hq_ifT h
          have bm18 := hq_leN m18
          rw [if_pos m18] at h
          obtain ⟨x19, hx19, h⟩ := hq_bind h
          obtain ⟨s20, hs20, h⟩ := hq_bind h
          have t := hq_fx_tr t (hq_fx_st hs20 (by first | decide | omega))
          cases h
          exact t
    exact hq_fx_tr t (e2 a1 (a2 + (1 : Int32)) none z12 h)
  · rw [if_neg c2] at h
    have h := Option.some.inj h
    subst h
    exact t
theorem f_X3_catchBy_L2_fr {n m : Nat} {a1 : Int32} {a2 : Int32} {s : hq_S} {y : hq_S} (h : f_X3_catchBy_L2 n m a1 a2 s = some y) : hq_fx s y := by
  induction m generalizing a1 a2 s with
  | zero => cases h
  | succ m ih => exact f_X3_catchBy_L2_B_fr (n := n) (a1 := a1) (a2 := a2) (q2 := f_X3_catchBy_L2 n m) (fun a1 a2 _ s h => ih h) h
theorem f_X3_catchBy_fr {n : Nat} {a1 : Int32} {s : hq_S} {y : hq_S} (h : f_X3_catchBy n a1 s = some y) : hq_fx s y := by
  unfold f_X3_catchBy at h
  have t := hq_fx_rf s
  exact hq_fx_tr t (f_X3_catchBy_L2_fr h)
theorem f_X3_takeLoot_fr {n : Nat} {a1 : Int32} {s : hq_S} {y : hq_S} (h : f_X3_takeLoot n a1 s = some y) : hq_fx s y := by
  unfold f_X3_takeLoot at h
  have t := hq_fx_rf s
  have m1 : hq_isN (hq_gr s 113 2) := hq_ifT h
  have bm1 := hq_leN m1
  rw [if_pos m1] at h
  obtain ⟨x2, hx2, h⟩ := hq_bind h
  obtain ⟨y3, hy3, h⟩ := hq_bind h
  have t := hq_fx_tr t (f_X3_lawValue_fr hy3)
  obtain ⟨z4, hz4, h⟩ := hq_bind h
  have m8 : hq_isN (hq_gr y3.2 113 2) := hq_ifT h
  have bm8 := hq_leN m8
  rw [if_pos m8] at h
  obtain ⟨x9, hx9, h⟩ := hq_bind h
  have m10 : hq_isN (hq_gr y3.2 113 2) := hq_ifT h
  have bm10 := hq_leN m10
  rw [if_pos m10] at h
  obtain ⟨x11, hx11, h⟩ := hq_bind h
  obtain ⟨s12, hs12, h⟩ := hq_bind h
  have t := hq_fx_tr t (hq_fx_st hs12 (by first | decide | omega))
  have m13 : hq_isN (hq_gr s12 113 2) := hq_ifT h
  have bm13 := hq_leN m13
  rw [if_pos m13] at h
  obtain ⟨x14, hx14, h⟩ := hq_bind h
  obtain ⟨s15, hs15, h⟩ := hq_bind h
  have t := hq_fx_tr t (hq_fx_st hs15 (by first | decide | omega))
  have h := Option.some.inj h
  subst h
  exact t
theorem f_X3_pass_L73_B_fr {n : Nat} {a1 : Int32} {q73 : Int32 → hq_S → Option hq_S} {s : hq_S} {y : hq_S} (e73 : ∀ (a1 : Int32) (s : hq_S), q73 a1 s = some y → hq_fx s y) (h : f_X3_pass_L73_B n q73 a1 s = some y) : hq_fx s y := by
  unfold f_X3_pass_L73_B at h
  have t := hq_fx_rf s
  have m6 : hq_isT (hq_gr s 113 0) := hq_ifT h
  have bm6 := hq_leT m6
  rw [if_pos m6] at h
  by_cases c7 : a1 < (hq_gi s (hq_gr s 113 0) 11)
  · rw [if_pos c7] at h
    have m10 : hq_isN (hq_gr s 113 2) := hq_ifT h
    have bm10 := hq_leN m10
    rw [if_pos m10] at h
    obtain ⟨y11, hy11, h⟩ := hq_bind h
    have t := hq_fx_tr t (f_X5_isFree_fr m10 hy11)
    obtain ⟨z12, hz12, h⟩ := hq_bind h
    have t : hq_fx s z12 := by
      clear h
      have h := hz12
      by_cases c13 : y11.1 = 0
      · rw [if_pos c13] at h
        cases h
        exact t
      · rw [if_neg c13] at h
        obtain ⟨s14, hs14, h⟩ := hq_bind h
        have t := hq_fx_tr t (f_X3_takeLoot_fr hs14)
        cases h
        exact t
    exact hq_fx_tr t (e73 (a1 + (1 : Int32)) z12 h)
  · rw [if_neg c7] at h
    have m8 : hq_isN (hq_gr s 113 2) := hq_ifT h
    have bm8 := hq_leN m8
    rw [if_pos m8] at h
    obtain ⟨s9, hs9, h⟩ := hq_bind h
    have t := hq_fx_tr t (hq_fx_pi hs9 (by first | decide | omega))
    have h := Option.some.inj h
    subst h
    exact t
theorem f_X3_pass_L73_fr {n m : Nat} {a1 : Int32} {s : hq_S} {y : hq_S} (h : f_X3_pass_L73 n m a1 s = some y) : hq_fx s y := by
  induction m generalizing a1 s with
  | zero => cases h
  | succ m ih => exact f_X3_pass_L73_B_fr (n := n) (a1 := a1) (q73 := f_X3_pass_L73 n m) (fun a1 s h => ih h) h
theorem f_X3_pass_L49_B_fr {n : Nat} {a1 : Int32} {q49 : Int32 → hq_S → Option hq_S} {s : hq_S} {y : hq_S} (e49 : ∀ (a1 : Int32) (s : hq_S), q49 a1 s = some y → hq_fx s y) (h : f_X3_pass_L49_B n q49 a1 s = some y) : hq_fx s y := by
  unfold f_X3_pass_L49_B at h
  have t := hq_fx_rf s
  have m4 : hq_isT (hq_gr s 113 0) := hq_ifT h
  have bm4 := hq_leT m4
  rw [if_pos m4] at h
  by_cases c5 : a1 < (hq_gi s (hq_gr s 113 0) 7)
  · rw [if_pos c5] at h
    obtain ⟨s15, hs15, h⟩ := hq_bind h
    have t := hq_fx_tr t (f_X3_catchBy_fr hs15)
    exact hq_fx_tr t (e49 (a1 + (1 : Int32)) s15 h)
  · rw [if_neg c5] at h
    exact hq_fx_tr t (f_X3_pass_L73_fr h)
theorem f_X3_pass_L49_fr {n m : Nat} {a1 : Int32} {s : hq_S} {y : hq_S} (h : f_X3_pass_L49 n m a1 s = some y) : hq_fx s y := by
  induction m generalizing a1 s with
  | zero => cases h
  | succ m ih => exact f_X3_pass_L49_B_fr (n := n) (a1 := a1) (q49 := f_X3_pass_L49 n m) (fun a1 s h => ih h) h
theorem f_X3_pass_L6_B_fr {n : Nat} {a1 : Int32} {q6 : Int32 → hq_S → Option hq_S} {s : hq_S} {y : hq_S} (e6 : ∀ (a1 : Int32) (s : hq_S), q6 a1 s = some y → hq_fx s y) (h : f_X3_pass_L6_B n q6 a1 s = some y) : hq_fx s y := by
  unfold f_X3_pass_L6_B at h
  have t := hq_fx_rf s
  have m2 : hq_isT (hq_gr s 113 0) := hq_ifT h
  have bm2 := hq_leT m2
  rw [if_pos m2] at h
  by_cases c3 : a1 < (hq_gi s (hq_gr s 113 0) 11)
  · rw [if_pos c3] at h
    have m16 : hq_isN (hq_gr s 113 2) := hq_ifT h
    have bm16 := hq_leN m16
    rw [if_pos m16] at h
    obtain ⟨y17, hy17, h⟩ := hq_bind h
    have t := hq_fx_tr t (f_X5_isFree_fr m16 hy17)
    obtain ⟨z18, hz18, h⟩ := hq_bind h
    have t : hq_fx s z18 := by
      clear h
      have h := hz18
      by_cases c19 : y17.1 = 0
      · rw [if_pos c19] at h
        cases h
        exact t
      · rw [if_neg c19] at h
        obtain ⟨y20, hy20, h⟩ := hq_bind h
        have t := hq_fx_tr t (f_X3_stirs_fr hy20)
        by_cases c21 : y20.1 = 0
        · rw [if_pos c21] at h
          cases h
          exact t
        · rw [if_neg c21] at h
          obtain ⟨s22, hs22, h⟩ := hq_bind h
          have t := hq_fx_tr t (f_X3_goWhereDreadIsLeast_fr hs22)
          cases h
          exact t
    exact hq_fx_tr t (e6 (a1 + (1 : Int32)) z18 h)
  · rw [if_neg c3] at h
    exact hq_fx_tr t (f_X3_pass_L49_fr h)
theorem f_X3_pass_L6_fr {n m : Nat} {a1 : Int32} {s : hq_S} {y : hq_S} (h : f_X3_pass_L6 n m a1 s = some y) : hq_fx s y := by
  induction m generalizing a1 s with
  | zero => cases h
  | succ m ih => exact f_X3_pass_L6_B_fr (n := n) (a1 := a1) (q6 := f_X3_pass_L6 n m) (fun a1 s h => ih h) h
theorem f_X3_pass_fr {n : Nat} {s : hq_S} {y : hq_S} (h : f_X3_pass n s = some y) : hq_fx s y := by
  unfold f_X3_pass at h
  have t := hq_fx_rf s
  obtain ⟨s1, hs1, h⟩ := hq_bind h
  have t := hq_fx_tr t (f_X3_walkBeats_fr hs1)
  exact hq_fx_tr t (f_X3_pass_L6_fr h)
theorem f_X3_hadOfThief_fr {n : Nat} {a1 : Int32} {s : hq_S} {y : (Int32 × hq_S)} (h : f_X3_hadOfThief n a1 s = some y) : hq_fx s y.2 := by
  unfold f_X3_hadOfThief at h
  have t := hq_fx_rf s
  have m1 : hq_isN (hq_gr s 113 2) := hq_ifT h
  have bm1 := hq_leN m1
  rw [if_pos m1] at h
  obtain ⟨x2, hx2, h⟩ := hq_bind h
  have h := Option.some.inj h
  subst h
  exact t
theorem f_X3_placeOfThief_fr {n : Nat} {a1 : Int32} {s : hq_S} {y : (Int32 × hq_S)} (h : f_X3_placeOfThief n a1 s = some y) : hq_fx s y.2 := by
  unfold f_X3_placeOfThief at h
  have t := hq_fx_rf s
  have m1 : hq_isN (hq_gr s 113 2) := hq_ifT h
  have bm1 := hq_leN m1
  rw [if_pos m1] at h
  obtain ⟨x2, hx2, h⟩ := hq_bind h
  have h := Option.some.inj h
  subst h
  exact t
theorem f_X2_areSo_J83_fr {n : Nat} {a1 : Int32} {a2 : Int32} {a4 : Int32} {a5 : Int32} {q3 : Int32 → Int32 → Int32 → hq_S → Option (Int32 × hq_S)} {s : hq_S} {y : (Int32 × hq_S)} (e3 : ∀ (a1 : Int32) (a2 : Int32) (a4 : Int32) (o5 : Option Value) (s : hq_S), q3 a1 a2 a4 s = some y → hq_fx s y.2) (h : f_X2_areSo_J83 n q3 a1 a2 a4 a5 s = some y) : hq_fx s y.2 := by
  unfold f_X2_areSo_J83 at h
  have t := hq_fx_rf s
  exact hq_fx_tr t (e3 a1 a2 (a4 + (1 : Int32)) none s h)
theorem f_X2_areSo_L3_B_fr {n : Nat} {a1 : Int32} {a2 : Int32} {a4 : Int32} {q3 : Int32 → Int32 → Int32 → hq_S → Option (Int32 × hq_S)} {s : hq_S} {y : (Int32 × hq_S)} (e3 : ∀ (a1 : Int32) (a2 : Int32) (a4 : Int32) (o5 : Option Value) (s : hq_S), q3 a1 a2 a4 s = some y → hq_fx s y.2) (h : f_X2_areSo_L3_B n q3 a1 a2 a4 s = some y) : hq_fx s y.2 := by
  unfold f_X2_areSo_L3_B at h
  have t := hq_fx_rf s
  by_cases c1 : a4 < (hq_gi s 163 0)
  · rw [if_pos c1] at h
    obtain ⟨z2, hz2, h⟩ := hq_bind h
    by_cases c6 : z2 = 0
    · rw [if_pos c6] at h
      exact hq_fx_tr t (f_X2_areSo_J83_fr e3 h)
    · rw [if_neg c6] at h
      obtain ⟨x7, hx7, h⟩ := hq_bind h
      obtain ⟨y8, hy8, h⟩ := hq_bind h
      have t := hq_fx_tr t (f_X3_placeOfThief_fr hy8)
      obtain ⟨x9, hx9, h⟩ := hq_bind h
      obtain ⟨z10, hz10, h⟩ := hq_bind h
      obtain ⟨x12, hx12, h⟩ := hq_bind h
      by_cases c13 : z10 = x12
      · rw [if_pos c13] at h
        exact hq_fx_tr t (f_X2_areSo_J83_fr e3 h)
      · rw [if_neg c13] at h
        have h := Option.some.inj h
        subst h
        exact t
  · rw [if_neg c1] at h
    have h := Option.some.inj h
    subst h
    exact t
theorem f_X2_areSo_L3_fr {n m : Nat} {a1 : Int32} {a2 : Int32} {a4 : Int32} {s : hq_S} {y : (Int32 × hq_S)} (h : f_X2_areSo_L3 n m a1 a2 a4 s = some y) : hq_fx s y.2 := by
  induction m generalizing a1 a2 a4 s with
  | zero => cases h
  | succ m ih => exact f_X2_areSo_L3_B_fr (n := n) (a1 := a1) (a2 := a2) (a4 := a4) (q3 := f_X2_areSo_L3 n m) (fun a1 a2 a4 _ s h => ih h) h
theorem f_X2_areSo_fr {n : Nat} {a1 : Int32} {a2 : Int32} {s : hq_S} {y : (Int32 × hq_S)} (h : f_X2_areSo n a1 a2 s = some y) : hq_fx s y.2 := by
  unfold f_X2_areSo at h
  have t := hq_fx_rf s
  exact hq_fx_tr t (f_X2_areSo_L3_fr h)
theorem f_X2_boldsOf_J91_fr {n : Nat} {a1 : Int32} {k3 : Nat} {a4 : Int32} {a5 : Int32} {a6 : Int32} {a7 : Int32} {a8 : Int32} {a9 : Int32} {q12 : Int32 → Nat → Int32 → Int32 → Int32 → Int32 → hq_S → Option (Int32 × hq_S)} {s : hq_S} {y : (Int32 × hq_S)} (e12 : ∀ (a1 : Int32) (k3 : Nat) (a4 : Int32) (a5 : Int32) (a6 : Int32) (a7 : Int32) (o8 : Option Value) (o9 : Option Value) (s : hq_S) (m3_ : hq_isN k3), q12 a1 k3 a4 a5 a6 a7 s = some y → hq_fx s y.2) (m3_ : hq_isN k3) (h : f_X2_boldsOf_J91 n q12 a1 k3 a4 a5 a6 a7 a8 a9 s = some y) : hq_fx s y.2 := by
  unfold f_X2_boldsOf_J91 at h
  have bm3_ := hq_leN m3_
  have t := hq_fx_rf s
  obtain ⟨z5, hz5, h⟩ := hq_bind h
  exact hq_fx_tr t (e12 a1 k3 a4 a5 (a6 ||| z5) (a7 + (1 : Int32)) none none s m3_ h)
theorem f_X2_boldsOf_L33_B_fr {n : Nat} {a1 : Int32} {k3 : Nat} {a4 : Int32} {a5 : Int32} {a6 : Int32} {a7 : Int32} {a8 : Int32} {a9 : Int32} {q12 : Int32 → Nat → Int32 → Int32 → Int32 → Int32 → hq_S → Option (Int32 × hq_S)} {q33 : Int32 → Nat → Int32 → Int32 → Int32 → Int32 → Int32 → Int32 → hq_S → Option (Int32 × hq_S)} {s : hq_S} {y : (Int32 × hq_S)} (e12 : ∀ (a1 : Int32) (k3 : Nat) (a4 : Int32) (a5 : Int32) (a6 : Int32) (a7 : Int32) (o8 : Option Value) (o9 : Option Value) (s : hq_S) (m3_ : hq_isN k3), q12 a1 k3 a4 a5 a6 a7 s = some y → hq_fx s y.2) (e33 : ∀ (a1 : Int32) (k3 : Nat) (a4 : Int32) (a5 : Int32) (a6 : Int32) (a7 : Int32) (a8 : Int32) (a9 : Int32) (s : hq_S) (m3_ : hq_isN k3), q33 a1 k3 a4 a5 a6 a7 a8 a9 s = some y → hq_fx s y.2) (m3_ : hq_isN k3) (h : f_X2_boldsOf_L33_B n q12 q33 a1 k3 a4 a5 a6 a7 a8 a9 s = some y) : hq_fx s y.2 := by
  unfold f_X2_boldsOf_L33_B at h
  have bm3_ := hq_leN m3_
  have t := hq_fx_rf s
  by_cases c4 : a4 < a9
  · rw [if_pos c4] at h
    exact hq_fx_tr t (f_X2_boldsOf_J91_fr e12 m3_ h)
  · rw [if_neg c4] at h
    by_cases c7 : (60 : Int32) < a9
    · rw [if_pos c7] at h
      exact hq_fx_tr t (f_X2_boldsOf_J91_fr e12 m3_ h)
    · rw [if_neg c7] at h
      by_cases c8 : a8 = 0
      · rw [if_pos c8] at h
        exact hq_fx_tr t (f_X2_boldsOf_J91_fr e12 m3_ h)
      · rw [if_neg c8] at h
        obtain ⟨s9, hs9, h⟩ := hq_bind h
        have t := hq_fx_tr t (f_X3_pass_fr hs9)
        obtain ⟨y10, hy10, h⟩ := hq_bind h
        have t := hq_fx_tr t (f_X3_hadOfThief_fr hy10)
        obtain ⟨s11, hs11, h⟩ := hq_bind h
        have t := hq_fx_tr t (hq_fx_st hs11 (by first | decide | omega))
        obtain ⟨y12, hy12, h⟩ := hq_bind h
        have t := hq_fx_tr t (f_X2_areSo_fr hy12)
        exact hq_fx_tr t (e33 a1 k3 a4 a5 a6 a7 y12.1 (a9 + (1 : Int32)) y12.2 m3_ h)
theorem f_X2_boldsOf_L33_fr {n m : Nat} {a1 : Int32} {k3 : Nat} {a4 : Int32} {a5 : Int32} {a6 : Int32} {a7 : Int32} {a8 : Int32} {a9 : Int32} {q12 : Int32 → Nat → Int32 → Int32 → Int32 → Int32 → hq_S → Option (Int32 × hq_S)} {s : hq_S} {y : (Int32 × hq_S)} (e12 : ∀ (a1 : Int32) (k3 : Nat) (a4 : Int32) (a5 : Int32) (a6 : Int32) (a7 : Int32) (o8 : Option Value) (o9 : Option Value) (s : hq_S) (m3_ : hq_isN k3), q12 a1 k3 a4 a5 a6 a7 s = some y → hq_fx s y.2) (m3_ : hq_isN k3) (h : f_X2_boldsOf_L33 n q12 m a1 k3 a4 a5 a6 a7 a8 a9 s = some y) : hq_fx s y.2 := by
  induction m generalizing a1 k3 a4 a5 a6 a7 a8 a9 s with
  | zero => cases h
  | succ m ih => exact f_X2_boldsOf_L33_B_fr (n := n) (a1 := a1) (k3 := k3) (a4 := a4) (a5 := a5) (a6 := a6) (a7 := a7) (a8 := a8) (a9 := a9) (q33 := f_X2_boldsOf_L33 n q12 m) e12 (fun a1 k3 a4 a5 a6 a7 a8 a9 s m3_ h => ih m3_ h) m3_ h
theorem f_X2_boldsOf_L12_B_fr {n : Nat} {a1 : Int32} {k3 : Nat} {a4 : Int32} {a5 : Int32} {a6 : Int32} {a7 : Int32} {q12 : Int32 → Nat → Int32 → Int32 → Int32 → Int32 → hq_S → Option (Int32 × hq_S)} {s : hq_S} {y : (Int32 × hq_S)} (e12 : ∀ (a1 : Int32) (k3 : Nat) (a4 : Int32) (a5 : Int32) (a6 : Int32) (a7 : Int32) (o8 : Option Value) (o9 : Option Value) (s : hq_S) (m3_ : hq_isN k3), q12 a1 k3 a4 a5 a6 a7 s = some y → hq_fx s y.2) (m3_ : hq_isN k3) (h : f_X2_boldsOf_L12_B n q12 a1 k3 a4 a5 a6 a7 s = some y) : hq_fx s y.2 := by
  unfold f_X2_boldsOf_L12_B at h
  have bm3_ := hq_leN m3_
  have t := hq_fx_rf s
  by_cases c2 : a7 < (10 : Int32)
  · rw [if_pos c2] at h
    obtain ⟨s3, hs3, h⟩ := hq_bind h
    have t := hq_fx_tr t (f_X3_restart_fr m3_ hs3)
    exact hq_fx_tr t (f_X2_boldsOf_L33_fr e12 m3_ h)
  · rw [if_neg c2] at h
    have h := Option.some.inj h
    subst h
    exact t
theorem f_X2_boldsOf_L12_fr {n m : Nat} {a1 : Int32} {k3 : Nat} {a4 : Int32} {a5 : Int32} {a6 : Int32} {a7 : Int32} {s : hq_S} {y : (Int32 × hq_S)} (m3_ : hq_isN k3) (h : f_X2_boldsOf_L12 n m a1 k3 a4 a5 a6 a7 s = some y) : hq_fx s y.2 := by
  induction m generalizing a1 k3 a4 a5 a6 a7 s with
  | zero => cases h
  | succ m ih => exact f_X2_boldsOf_L12_B_fr (n := n) (a1 := a1) (k3 := k3) (a4 := a4) (a5 := a5) (a6 := a6) (a7 := a7) (q12 := f_X2_boldsOf_L12 n m) (fun a1 k3 a4 a5 a6 a7 _ _ s m3_ h => ih m3_ h) m3_ h
theorem f_X2_boldsOf_fr {n : Nat} {a1 : Int32} {k3 : Nat} {a4 : Int32} {s : hq_S} {y : (Int32 × hq_S)} (m3_ : hq_isN k3) (h : f_X2_boldsOf n a1 k3 a4 s = some y) : hq_fx s y.2 := by
  unfold f_X2_boldsOf at h
  have bm3_ := hq_leN m3_
  have t := hq_fx_rf s
  obtain ⟨y1, hy1, h⟩ := hq_bind h
  have t := hq_fx_tr t (f_X2_standing_fr hy1)
  exact hq_fx_tr t (f_X2_boldsOf_L12_fr m3_ h)
theorem f_X2_lastHour_L4_B_fr {n : Nat} {a1 : Int32} {a2 : Int32} {q4 : Int32 → Int32 → hq_S → Option (Int32 × hq_S)} {s : hq_S} {y : (Int32 × hq_S)} (e4 : ∀ (a1 : Int32) (a2 : Int32) (s : hq_S), q4 a1 a2 s = some y → hq_fx s y.2) (h : f_X2_lastHour_L4_B n q4 a1 a2 s = some y) : hq_fx s y.2 := by
  unfold f_X2_lastHour_L4_B at h
  have t := hq_fx_rf s
  by_cases c1 : a2 < (hq_gi s 163 0)
  · rw [if_pos c1] at h
    obtain ⟨x2, hx2, h⟩ := hq_bind h
    obtain ⟨z3, hz3, h⟩ := hq_bind h
    exact hq_fx_tr t (e4 z3 (a2 + (1 : Int32)) s h)
  · rw [if_neg c1] at h
    have h := Option.some.inj h
    subst h
    exact t
theorem f_X2_lastHour_L4_fr {n m : Nat} {a1 : Int32} {a2 : Int32} {s : hq_S} {y : (Int32 × hq_S)} (h : f_X2_lastHour_L4 n m a1 a2 s = some y) : hq_fx s y.2 := by
  induction m generalizing a1 a2 s with
  | zero => cases h
  | succ m ih => exact f_X2_lastHour_L4_B_fr (n := n) (a1 := a1) (a2 := a2) (q4 := f_X2_lastHour_L4 n m) (fun a1 a2 s h => ih h) h
theorem f_X2_lastHour_fr {n : Nat} {s : hq_S} {y : (Int32 × hq_S)} (h : f_X2_lastHour n s = some y) : hq_fx s y.2 := by
  unfold f_X2_lastHour at h
  have t := hq_fx_rf s
  exact hq_fx_tr t (f_X2_lastHour_L4_fr h)
theorem f_X2_hadIn_fr {n : Nat} {a1 : Int32} {a2 : Int32} {s : hq_S} {y : (Int32 × hq_S)} (h : f_X2_hadIn n a1 a2 s = some y) : hq_fx s y.2 := by
  unfold f_X2_hadIn at h
  have t := hq_fx_rf s
  obtain ⟨x1, hx1, h⟩ := hq_bind h
  have h := Option.some.inj h
  subst h
  exact t
theorem f_X2_worstLeft_L18_B_fr {n : Nat} {a1 : Int32} {a2 : Int32} {a3 : Int32} {a4 : Int32} {a5 : Int32} {a6 : Int32} {q5 : Int32 → Int32 → Int32 → Int32 → hq_S → Option (Int32 × hq_S)} {q18 : Int32 → Int32 → Int32 → Int32 → Int32 → Int32 → hq_S → Option (Int32 × hq_S)} {s : hq_S} {y : (Int32 × hq_S)} (e5 : ∀ (a1 : Int32) (a2 : Int32) (a3 : Int32) (a4 : Int32) (o5 : Option Value) (o6 : Option Value) (o7 : Option Value) (s : hq_S), q5 a1 a2 a3 a4 s = some y → hq_fx s y.2) (e18 : ∀ (a1 : Int32) (a2 : Int32) (a3 : Int32) (a4 : Int32) (a5 : Int32) (a6 : Int32) (o7 : Option Value) (s : hq_S), q18 a1 a2 a3 a4 a5 a6 s = some y → hq_fx s y.2) (h : f_X2_worstLeft_L18_B n q5 q18 a1 a2 a3 a4 a5 a6 s = some y) : hq_fx s y.2 := by
  unfold f_X2_worstLeft_L18_B at h
  have t := hq_fx_rf s
  by_cases c2 : a6 < (10 : Int32)
  · rw [if_pos c2] at h
    obtain ⟨z3, hz3, h⟩ := hq_bind h
    obtain ⟨z6, hz6, h⟩ := hq_bind h
    have t : hq_fx s z6.2 := by
      clear h
      have h := hz6
      by_cases c7 : z3 = 0
      · rw [if_pos c7] at h
        cases h
        exact t
      · rw [if_neg c7] at h
        obtain ⟨y8, hy8, h⟩ := hq_bind h
        have t := hq_fx_tr t (f_X2_hadIn_fr hy8)
        obtain ⟨y9, hy9, h⟩ := hq_bind h
        have t := hq_fx_tr t (f_X2_hadIn_fr hy9)
        by_cases c10 : y8.1 = y9.1
        · rw [if_pos c10] at h
          cases h
          exact t
        · rw [if_neg c10] at h
          cases h
          exact t
    exact hq_fx_tr t (e18 a1 a2 a3 a4 (a5 + z6.1) (a6 + (1 : Int32)) none z6.2 h)
  · rw [if_neg c2] at h
    exact hq_fx_tr t (e5 a1 a2 (hq_max a3 a5) (a4 + (1 : Int32)) none none none s h)
theorem f_X2_worstLeft_L18_fr {n m : Nat} {a1 : Int32} {a2 : Int32} {a3 : Int32} {a4 : Int32} {a5 : Int32} {a6 : Int32} {q5 : Int32 → Int32 → Int32 → Int32 → hq_S → Option (Int32 × hq_S)} {s : hq_S} {y : (Int32 × hq_S)} (e5 : ∀ (a1 : Int32) (a2 : Int32) (a3 : Int32) (a4 : Int32) (o5 : Option Value) (o6 : Option Value) (o7 : Option Value) (s : hq_S), q5 a1 a2 a3 a4 s = some y → hq_fx s y.2) (h : f_X2_worstLeft_L18 n q5 m a1 a2 a3 a4 a5 a6 s = some y) : hq_fx s y.2 := by
  induction m generalizing a1 a2 a3 a4 a5 a6 s with
  | zero => cases h
  | succ m ih => exact f_X2_worstLeft_L18_B_fr (n := n) (a1 := a1) (a2 := a2) (a3 := a3) (a4 := a4) (a5 := a5) (a6 := a6) (q18 := f_X2_worstLeft_L18 n q5 m) e5 (fun a1 a2 a3 a4 a5 a6 _ s h => ih h) h
theorem f_X2_worstLeft_L5_B_fr {n : Nat} {a1 : Int32} {a2 : Int32} {a3 : Int32} {a4 : Int32} {q5 : Int32 → Int32 → Int32 → Int32 → hq_S → Option (Int32 × hq_S)} {s : hq_S} {y : (Int32 × hq_S)} (e5 : ∀ (a1 : Int32) (a2 : Int32) (a3 : Int32) (a4 : Int32) (o5 : Option Value) (o6 : Option Value) (o7 : Option Value) (s : hq_S), q5 a1 a2 a3 a4 s = some y → hq_fx s y.2) (h : f_X2_worstLeft_L5_B n q5 a1 a2 a3 a4 s = some y) : hq_fx s y.2 := by
  unfold f_X2_worstLeft_L5_B at h
  have t := hq_fx_rf s
  by_cases c1 : a4 < (10 : Int32)
  · rw [if_pos c1] at h
    exact hq_fx_tr t (f_X2_worstLeft_L18_fr e5 h)
  · rw [if_neg c1] at h
    have h := Option.some.inj h
    subst h
    exact t
theorem f_X2_worstLeft_L5_fr {n m : Nat} {a1 : Int32} {a2 : Int32} {a3 : Int32} {a4 : Int32} {s : hq_S} {y : (Int32 × hq_S)} (h : f_X2_worstLeft_L5 n m a1 a2 a3 a4 s = some y) : hq_fx s y.2 := by
  induction m generalizing a1 a2 a3 a4 s with
  | zero => cases h
  | succ m ih => exact f_X2_worstLeft_L5_B_fr (n := n) (a1 := a1) (a2 := a2) (a3 := a3) (a4 := a4) (q5 := f_X2_worstLeft_L5 n m) (fun a1 a2 a3 a4 _ _ _ s h => ih h) h
theorem f_X2_worstLeft_fr {n : Nat} {a1 : Int32} {a2 : Int32} {s : hq_S} {y : (Int32 × hq_S)} (h : f_X2_worstLeft n a1 a2 s = some y) : hq_fx s y.2 := by
  unfold f_X2_worstLeft at h
  have t := hq_fx_rf s
  exact hq_fx_tr t (f_X2_worstLeft_L5_fr h)
theorem f_X2_chooseQuestion_L17_B_fr {n : Nat} {a1 : Int32} {a2 : Int32} {q17 : Int32 → Int32 → hq_S → Option hq_S} {s : hq_S} {y : hq_S} (e17 : ∀ (a1 : Int32) (a2 : Int32) (o3 : Option Value) (s : hq_S), q17 a1 a2 s = some y → hq_fx s y) (h : f_X2_chooseQuestion_L17_B n q17 a1 a2 s = some y) : hq_fx s y := by
  unfold f_X2_chooseQuestion_L17_B at h
  have t := hq_fx_rf s
  by_cases c4 : (60 : Int32) < a2
  · rw [if_pos c4] at h
    have h := Option.some.inj h
    subst h
    exact t
  · rw [if_neg c4] at h
    obtain ⟨y5, hy5, h⟩ := hq_bind h
    have t := hq_fx_tr t (f_X2_worstLeft_fr hy5)
    obtain ⟨z6, hz6, h⟩ := hq_bind h
    obtain ⟨s8, hs8, h⟩ := hq_bind h
    have t := hq_fx_tr t (hq_fx_pi hs8 (by first | decide | omega))
    obtain ⟨s9, hs9, h⟩ := hq_bind h
    have t := hq_fx_tr t (hq_fx_pi hs9 (by first | decide | omega))
    exact hq_fx_tr t (e17 a1 (a2 + (1 : Int32)) none s9 h)
theorem f_X2_chooseQuestion_L17_fr {n m : Nat} {a1 : Int32} {a2 : Int32} {s : hq_S} {y : hq_S} (h : f_X2_chooseQuestion_L17 n m a1 a2 s = some y) : hq_fx s y := by
  induction m generalizing a1 a2 s with
  | zero => cases h
  | succ m ih => exact f_X2_chooseQuestion_L17_B_fr (n := n) (a1 := a1) (a2 := a2) (q17 := f_X2_chooseQuestion_L17 n m) (fun a1 a2 _ s h => ih h) h
theorem f_X2_chooseQuestion_fr {n : Nat} {a1 : Int32} {s : hq_S} {y : hq_S} (h : f_X2_chooseQuestion n a1 s = some y) : hq_fx s y := by
  unfold f_X2_chooseQuestion at h
  have t := hq_fx_rf s
  obtain ⟨s1, hs1, h⟩ := hq_bind h
  have t := hq_fx_tr t (hq_fx_pi hs1 (by first | decide | omega))
  obtain ⟨y2, hy2, h⟩ := hq_bind h
  have t := hq_fx_tr t (f_X2_worstLeft_fr hy2)
  obtain ⟨s3, hs3, h⟩ := hq_bind h
  have t := hq_fx_tr t (hq_fx_pi hs3 (by first | decide | omega))
  exact hq_fx_tr t (f_X2_chooseQuestion_L17_fr h)
theorem f_X3_setUp_fr {n : Nat} {k1 : Nat} {k2 : Nat} {k3 : Nat} {a4 : Int32} {s : hq_S} {y : hq_S} (m1_ : hq_isT k1) (m2_ : hq_isS k2) (m3_ : hq_isN k3) (h : f_X3_setUp n k1 k2 k3 a4 s = some y) : hq_fx s y := by
  unfold f_X3_setUp at h
  have bm1_ := hq_leT m1_
  have bm2_ := hq_leS m2_
  have bm3_ := hq_leN m3_
  have t := hq_fx_rf s
  obtain ⟨s1, hs1, h⟩ := hq_bind h
  have t := hq_fx_tr t (hq_fx_pr hs1 (by first | decide | omega))
  obtain ⟨s2, hs2, h⟩ := hq_bind h
  have t := hq_fx_tr t (hq_fx_pr hs2 (by first | decide | omega))
  obtain ⟨s3, hs3, h⟩ := hq_bind h
  have t := hq_fx_tr t (hq_fx_pr hs3 (by first | decide | omega))
  obtain ⟨s4, hs4, h⟩ := hq_bind h
  have t := hq_fx_tr t (hq_fx_pi hs4 (by first | decide | omega))
  obtain ⟨s5, hs5, h⟩ := hq_bind h
  have t := hq_fx_tr t (hq_fx_pi hs5 (by first | decide | omega))
  obtain ⟨s6, hs6, h⟩ := hq_bind h
  have t := hq_fx_tr t (hq_fx_pi hs6 (by first | decide | omega))
  have h := Option.some.inj h
  subst h
  exact t
theorem f_X3_passMany_L2_B_fr {n : Nat} {a1 : Int32} {a2 : Int32} {q2 : Int32 → Int32 → hq_S → Option hq_S} {s : hq_S} {y : hq_S} (e2 : ∀ (a1 : Int32) (a2 : Int32) (s : hq_S), q2 a1 a2 s = some y → hq_fx s y) (h : f_X3_passMany_L2_B n q2 a1 a2 s = some y) : hq_fx s y := by
  unfold f_X3_passMany_L2_B at h
  have t := hq_fx_rf s
  by_cases c1 : a2 < a1
  · rw [if_pos c1] at h
    obtain ⟨s2, hs2, h⟩ := hq_bind h
    have t := hq_fx_tr t (f_X3_pass_fr hs2)
    exact hq_fx_tr t (e2 a1 (a2 + (1 : Int32)) s2 h)
  · rw [if_neg c1] at h
    have h := Option.some.inj h
    subst h
    exact t
theorem f_X3_passMany_L2_fr {n m : Nat} {a1 : Int32} {a2 : Int32} {s : hq_S} {y : hq_S} (h : f_X3_passMany_L2 n m a1 a2 s = some y) : hq_fx s y := by
  induction m generalizing a1 a2 s with
  | zero => cases h
  | succ m ih => exact f_X3_passMany_L2_B_fr (n := n) (a1 := a1) (a2 := a2) (q2 := f_X3_passMany_L2 n m) (fun a1 a2 s h => ih h) h
theorem f_X3_passMany_fr {n : Nat} {a1 : Int32} {s : hq_S} {y : hq_S} (h : f_X3_passMany n a1 s = some y) : hq_fx s y := by
  unfold f_X3_passMany at h
  have t := hq_fx_rf s
  exact hq_fx_tr t (f_X3_passMany_L2_fr h)
theorem f_J7_fill_53178_L5_B_fr {n : Nat} {k0 : Nat} {a1 : Int32} {a2 : Int32} {a3 : Int32} {q5 : Nat → Int32 → Int32 → Int32 → hq_S → Option hq_S} {s : hq_S} {y : hq_S} (e5 : ∀ (k0 : Nat) (a1 : Int32) (a2 : Int32) (a3 : Int32) (s : hq_S) (wk0 : k0 < 174), q5 k0 a1 a2 a3 s = some y → hq_fx s y) (wk0 : k0 < 174) (h : f_J7_fill_53178_L5_B n q5 k0 a1 a2 a3 s = some y) : hq_fx s y := by
  unfold f_J7_fill_53178_L5_B at h
  have t := hq_fx_rf s
  by_cases c2 : a2 < a3
  · rw [if_pos c2] at h
    obtain ⟨s3, hs3, h⟩ := hq_bind h
    have t := hq_fx_tr t (hq_fx_stiA hs3 (by first | decide | omega))
    exact hq_fx_tr t (e5 k0 a1 (a2 + (1 : Int32)) a3 s3 (by first | decide | omega) h)
  · rw [if_neg c2] at h
    have h := Option.some.inj h
    subst h
    exact t
theorem f_J7_fill_53178_L5_fr {n m : Nat} {k0 : Nat} {a1 : Int32} {a2 : Int32} {a3 : Int32} {s : hq_S} {y : hq_S} (wk0 : k0 < 174) (h : f_J7_fill_53178_L5 n m k0 a1 a2 a3 s = some y) : hq_fx s y := by
  induction m generalizing k0 a1 a2 a3 s with
  | zero => cases h
  | succ m ih => exact f_J7_fill_53178_L5_B_fr (n := n) (k0 := k0) (a1 := a1) (a2 := a2) (a3 := a3) (q5 := f_J7_fill_53178_L5 n m) (fun k0 a1 a2 a3 s wk0 h => ih wk0 h) wk0 h
theorem f_J7_fill_53178_fr {n : Nat} {k0 : Nat} {a1 : Int32} {s : hq_S} {y : hq_S} (wk0 : k0 < 174) (h : f_J7_fill_53178 n k0 a1 s = some y) : hq_fx s y := by
  unfold f_J7_fill_53178 at h
  have t := hq_fx_rf s
  obtain ⟨x1, hx1, h⟩ := hq_bind h
  exact hq_fx_tr t (f_J7_fill_53178_L5_fr (by first | decide | omega) h)
theorem f_X4_clear_fr {n : Nat} {k0 : Nat} {s : hq_S} {y : hq_S} (m0_ : hq_isL k0) (h : f_X4_clear n k0 s = some y) : hq_fx s y := by
  unfold f_X4_clear at h
  have bm0_ := hq_leL m0_
  have t := hq_fx_rf s
  obtain ⟨s1, hs1, h⟩ := hq_bind h
  have t := hq_fx_tr t (hq_fx_pi hs1 (by first | decide | omega))
  obtain ⟨s2, hs2, h⟩ := hq_bind h
  have t := hq_fx_tr t (hq_fx_pi hs2 (by first | decide | omega))
  obtain ⟨s3, hs3, h⟩ := hq_bind h
  have t := hq_fx_tr t (f_J7_fill_53178_fr (by first | decide | omega) hs3)
  obtain ⟨s4, hs4, h⟩ := hq_bind h
  have t := hq_fx_tr t (f_J7_fill_53178_fr (by first | decide | omega) hs4)
  have h := Option.some.inj h
  subst h
  exact t
theorem f_X4_open_fr {n : Nat} {k0 : Nat} {a1 : Int32} {s : hq_S} {y : hq_S} (m0_ : hq_isL k0) (h : f_X4_open n k0 a1 s = some y) : hq_fx s y := by
  unfold f_X4_open at h
  have bm0_ := hq_leL m0_
  have t := hq_fx_rf s
  obtain ⟨s1, hs1, h⟩ := hq_bind h
  have t := hq_fx_tr t (hq_fx_st hs1 (by first | decide | omega))
  have h := Option.some.inj h
  subst h
  exact t
theorem f_X4_close_fr {n : Nat} {k0 : Nat} {a1 : Int32} {s : hq_S} {y : hq_S} (m0_ : hq_isL k0) (h : f_X4_close n k0 a1 s = some y) : hq_fx s y := by
  unfold f_X4_close at h
  have bm0_ := hq_leL m0_
  have t := hq_fx_rf s
  obtain ⟨s1, hs1, h⟩ := hq_bind h
  have t := hq_fx_tr t (hq_fx_st hs1 (by first | decide | omega))
  have h := Option.some.inj h
  subst h
  exact t
theorem f_X4_tellKnot_fr {n : Nat} {k0 : Nat} {s : hq_S} {y : (Int32 × hq_S)} (m0_ : hq_isL k0) (h : f_X4_tellKnot n k0 s = some y) : hq_fx s y.2 := by
  unfold f_X4_tellKnot at h
  have bm0_ := hq_leL m0_
  have t := hq_fx_rf s
  by_cases c1 : (hq_gi s k0 0) < (64 : Int32)
  · rw [if_pos c1] at h
    obtain ⟨s2, hs2, h⟩ := hq_bind h
    have t := hq_fx_tr t (hq_fx_pi hs2 (by first | decide | omega))
    have h := Option.some.inj h
    subst h
    exact t
  · rw [if_neg c1] at h
    have h := Option.some.inj h
    subst h
    exact t
theorem f_X4_put_fr {n : Nat} {k0 : Nat} {a1 : Int32} {s : hq_S} {y : hq_S} (m0_ : hq_isL k0) (h : f_X4_put n k0 a1 s = some y) : hq_fx s y := by
  unfold f_X4_put at h
  have bm0_ := hq_leL m0_
  have t := hq_fx_rf s
  by_cases c1 : (hq_gi s k0 1) < (64 : Int32)
  · rw [if_pos c1] at h
    obtain ⟨s2, hs2, h⟩ := hq_bind h
    have t := hq_fx_tr t (hq_fx_st hs2 (by first | decide | omega))
    obtain ⟨s3, hs3, h⟩ := hq_bind h
    have t := hq_fx_tr t (hq_fx_pi hs3 (by first | decide | omega))
    have h := Option.some.inj h
    subst h
    exact t
  · rw [if_neg c1] at h
    have h := Option.some.inj h
    subst h
    exact t
theorem f_X5_clear_fr {n : Nat} {k0 : Nat} {s : hq_S} {y : hq_S} (m0_ : hq_isN k0) (h : f_X5_clear n k0 s = some y) : hq_fx s y := by
  unfold f_X5_clear at h
  have bm0_ := hq_leN m0_
  have t := hq_fx_rf s
  obtain ⟨s1, hs1, h⟩ := hq_bind h
  have t := hq_fx_tr t (hq_fx_pi hs1 (by first | decide | omega))
  obtain ⟨s2, hs2, h⟩ := hq_bind h
  have t := hq_fx_tr t (hq_fx_pj hs2 (by first | decide | omega))
  obtain ⟨s3, hs3, h⟩ := hq_bind h
  have t := hq_fx_tr t (hq_fx_pi hs3 (by first | decide | omega))
  obtain ⟨s4, hs4, h⟩ := hq_bind h
  have t := hq_fx_tr t (f_J7_fill_53178_fr (by first | decide | omega) hs4)
  obtain ⟨s5, hs5, h⟩ := hq_bind h
  have t := hq_fx_tr t (f_J7_fill_53178_fr (by first | decide | omega) hs5)
  obtain ⟨s6, hs6, h⟩ := hq_bind h
  have t := hq_fx_tr t (f_J7_fill_53178_fr (by first | decide | omega) hs6)
  obtain ⟨s7, hs7, h⟩ := hq_bind h
  have t := hq_fx_tr t (f_J7_fill_53178_fr (by first | decide | omega) hs7)
  obtain ⟨s8, hs8, h⟩ := hq_bind h
  have t := hq_fx_tr t (f_J7_fill_53178_fr (by first | decide | omega) hs8)
  obtain ⟨s9, hs9, h⟩ := hq_bind h
  have t := hq_fx_tr t (f_J7_fill_53178_fr (by first | decide | omega) hs9)
  obtain ⟨s10, hs10, h⟩ := hq_bind h
  have t := hq_fx_tr t (f_J7_fill_53178_fr (by first | decide | omega) hs10)
  obtain ⟨s11, hs11, h⟩ := hq_bind h
  have t := hq_fx_tr t (f_J7_fill_53178_fr (by first | decide | omega) hs11)
  have h := Option.some.inj h
  subst h
  exact t
theorem f_X5_howManyCaught_L4_B_fr {n : Nat} {k0 : Nat} {a1 : Int32} {a2 : Int32} {a3 : Int32} {q4 : Nat → Int32 → Int32 → Int32 → hq_S → Option (Int32 × hq_S)} {s : hq_S} {y : (Int32 × hq_S)} (e4 : ∀ (k0 : Nat) (a1 : Int32) (a2 : Int32) (a3 : Int32) (s : hq_S) (m0_ : hq_isN k0), q4 k0 a1 a2 a3 s = some y → hq_fx s y.2) (m0_ : hq_isN k0) (h : f_X5_howManyCaught_L4_B n q4 k0 a1 a2 a3 s = some y) : hq_fx s y.2 := by
  unfold f_X5_howManyCaught_L4_B at h
  have bm0_ := hq_leN m0_
  have t := hq_fx_rf s
  by_cases c1 : a3 < a1
  · rw [if_pos c1] at h
    obtain ⟨y2, hy2, h⟩ := hq_bind h
    have t := hq_fx_tr t (f_X5_isFree_fr m0_ hy2)
    obtain ⟨z3, hz3, h⟩ := hq_bind h
    exact hq_fx_tr t (e4 k0 a1 (a2 + z3) (a3 + (1 : Int32)) y2.2 m0_ h)
  · rw [if_neg c1] at h
    have h := Option.some.inj h
    subst h
    exact t
theorem f_X5_howManyCaught_L4_fr {n m : Nat} {k0 : Nat} {a1 : Int32} {a2 : Int32} {a3 : Int32} {s : hq_S} {y : (Int32 × hq_S)} (m0_ : hq_isN k0) (h : f_X5_howManyCaught_L4 n m k0 a1 a2 a3 s = some y) : hq_fx s y.2 := by
  induction m generalizing k0 a1 a2 a3 s with
  | zero => cases h
  | succ m ih => exact f_X5_howManyCaught_L4_B_fr (n := n) (k0 := k0) (a1 := a1) (a2 := a2) (a3 := a3) (q4 := f_X5_howManyCaught_L4 n m) (fun k0 a1 a2 a3 s m0_ h => ih m0_ h) m0_ h
theorem f_X5_howManyCaught_fr {n : Nat} {k0 : Nat} {a1 : Int32} {s : hq_S} {y : (Int32 × hq_S)} (m0_ : hq_isN k0) (h : f_X5_howManyCaught n k0 a1 s = some y) : hq_fx s y.2 := by
  unfold f_X5_howManyCaught at h
  have bm0_ := hq_leN m0_
  have t := hq_fx_rf s
  exact hq_fx_tr t (f_X5_howManyCaught_L4_fr m0_ h)
theorem f_X5_lootOfAll_L4_B_fr {n : Nat} {k0 : Nat} {a1 : Int32} {a2 : Int32} {a3 : Int32} {q4 : Nat → Int32 → Int32 → Int32 → hq_S → Option (Int32 × hq_S)} {s : hq_S} {y : (Int32 × hq_S)} (e4 : ∀ (k0 : Nat) (a1 : Int32) (a2 : Int32) (a3 : Int32) (s : hq_S) (m0_ : hq_isN k0), q4 k0 a1 a2 a3 s = some y → hq_fx s y.2) (m0_ : hq_isN k0) (h : f_X5_lootOfAll_L4_B n q4 k0 a1 a2 a3 s = some y) : hq_fx s y.2 := by
  unfold f_X5_lootOfAll_L4_B at h
  have bm0_ := hq_leN m0_
  have t := hq_fx_rf s
  by_cases c1 : a3 < a1
  · rw [if_pos c1] at h
    obtain ⟨x2, hx2, h⟩ := hq_bind h
    exact hq_fx_tr t (e4 k0 a1 (a2 + x2) (a3 + (1 : Int32)) s m0_ h)
  · rw [if_neg c1] at h
    have h := Option.some.inj h
    subst h
    exact t
theorem f_X5_lootOfAll_L4_fr {n m : Nat} {k0 : Nat} {a1 : Int32} {a2 : Int32} {a3 : Int32} {s : hq_S} {y : (Int32 × hq_S)} (m0_ : hq_isN k0) (h : f_X5_lootOfAll_L4 n m k0 a1 a2 a3 s = some y) : hq_fx s y.2 := by
  induction m generalizing k0 a1 a2 a3 s with
  | zero => cases h
  | succ m ih => exact f_X5_lootOfAll_L4_B_fr (n := n) (k0 := k0) (a1 := a1) (a2 := a2) (a3 := a3) (q4 := f_X5_lootOfAll_L4 n m) (fun k0 a1 a2 a3 s m0_ h => ih m0_ h) m0_ h
theorem f_X5_lootOfAll_fr {n : Nat} {k0 : Nat} {a1 : Int32} {s : hq_S} {y : (Int32 × hq_S)} (m0_ : hq_isN k0) (h : f_X5_lootOfAll n k0 a1 s = some y) : hq_fx s y.2 := by
  unfold f_X5_lootOfAll at h
  have bm0_ := hq_leN m0_
  have t := hq_fx_rf s
  exact hq_fx_tr t (f_X5_lootOfAll_L4_fr m0_ h)
theorem f_X5_hadByAll_L4_B_fr {n : Nat} {k0 : Nat} {a1 : Int32} {a2 : Int32} {a3 : Int32} {q4 : Nat → Int32 → Int32 → Int32 → hq_S → Option (Int32 × hq_S)} {s : hq_S} {y : (Int32 × hq_S)} (e4 : ∀ (k0 : Nat) (a1 : Int32) (a2 : Int32) (a3 : Int32) (s : hq_S) (m0_ : hq_isN k0), q4 k0 a1 a2 a3 s = some y → hq_fx s y.2) (m0_ : hq_isN k0) (h : f_X5_hadByAll_L4_B n q4 k0 a1 a2 a3 s = some y) : hq_fx s y.2 := by
  unfold f_X5_hadByAll_L4_B at h
  have bm0_ := hq_leN m0_
  have t := hq_fx_rf s
  by_cases c1 : a3 < a1
  · rw [if_pos c1] at h
    obtain ⟨x2, hx2, h⟩ := hq_bind h
    exact hq_fx_tr t (e4 k0 a1 (a2 + x2) (a3 + (1 : Int32)) s m0_ h)
  · rw [if_neg c1] at h
    have h := Option.some.inj h
    subst h
    exact t
theorem f_X5_hadByAll_L4_fr {n m : Nat} {k0 : Nat} {a1 : Int32} {a2 : Int32} {a3 : Int32} {s : hq_S} {y : (Int32 × hq_S)} (m0_ : hq_isN k0) (h : f_X5_hadByAll_L4 n m k0 a1 a2 a3 s = some y) : hq_fx s y.2 := by
  induction m generalizing k0 a1 a2 a3 s with
  | zero => cases h
  | succ m ih => exact f_X5_hadByAll_L4_B_fr (n := n) (k0 := k0) (a1 := a1) (a2 := a2) (a3 := a3) (q4 := f_X5_hadByAll_L4 n m) (fun k0 a1 a2 a3 s m0_ h => ih m0_ h) m0_ h
theorem f_X5_hadByAll_fr {n : Nat} {k0 : Nat} {a1 : Int32} {s : hq_S} {y : (Int32 × hq_S)} (m0_ : hq_isN k0) (h : f_X5_hadByAll n k0 a1 s = some y) : hq_fx s y.2 := by
  unfold f_X5_hadByAll at h
  have bm0_ := hq_leN m0_
  have t := hq_fx_rf s
  exact hq_fx_tr t (f_X5_hadByAll_L4_fr m0_ h)
theorem f_X10_clear_fr {n : Nat} {k0 : Nat} {s : hq_S} {y : hq_S} (m0_ : hq_isT k0) (h : f_X10_clear n k0 s = some y) : hq_fx s y := by
  unfold f_X10_clear at h
  have bm0_ := hq_leT m0_
  have t := hq_fx_rf s
  obtain ⟨s1, hs1, h⟩ := hq_bind h
  have t := hq_fx_tr t (hq_fx_pi hs1 (by first | decide | omega))
  obtain ⟨s2, hs2, h⟩ := hq_bind h
  have t := hq_fx_tr t (hq_fx_pi hs2 (by first | decide | omega))
  obtain ⟨s3, hs3, h⟩ := hq_bind h
  have t := hq_fx_tr t (hq_fx_pi hs3 (by first | decide | omega))
  obtain ⟨s4, hs4, h⟩ := hq_bind h
  have t := hq_fx_tr t (hq_fx_pi hs4 (by first | decide | omega))
  obtain ⟨s5, hs5, h⟩ := hq_bind h
  have t := hq_fx_tr t (f_J7_fill_53178_fr (by first | decide | omega) hs5)
  obtain ⟨s6, hs6, h⟩ := hq_bind h
  have t := hq_fx_tr t (hq_fx_pi hs6 (by first | decide | omega))
  obtain ⟨s7, hs7, h⟩ := hq_bind h
  have t := hq_fx_tr t (hq_fx_pi hs7 (by first | decide | omega))
  obtain ⟨s8, hs8, h⟩ := hq_bind h
  have t := hq_fx_tr t (hq_fx_pi hs8 (by first | decide | omega))
  obtain ⟨s9, hs9, h⟩ := hq_bind h
  have t := hq_fx_tr t (hq_fx_pi hs9 (by first | decide | omega))
  obtain ⟨s10, hs10, h⟩ := hq_bind h
  have t := hq_fx_tr t (f_X4_clear_fr (hq_shT_m9 m0_) hs10)
  obtain ⟨s11, hs11, h⟩ := hq_bind h
  have t := hq_fx_tr t (f_X5_clear_fr (hq_shT_m14 m0_) hs11)
  have h := Option.some.inj h
  subst h
  exact t
theorem f_X9_takeWord_L124_B_fr {n : Nat} {a1 : Int32} {q124 : Int32 → hq_S → Option hq_S} {s : hq_S} {y : hq_S} (e124 : ∀ (a1 : Int32) (s : hq_S), q124 a1 s = some y → hq_fx s y) (h : f_X9_takeWord_L124_B n q124 a1 s = some y) : hq_fx s y := by
  unfold f_X9_takeWord_L124_B at h
  have t := hq_fx_rf s
  by_cases c5 : a1 < (22 : Int32)
  · rw [if_pos c5] at h
    by_cases c6 : (hq_gi s 49 4) = (2 : Int32)
    · rw [if_pos c6] at h
      obtain ⟨x7, hx7, h⟩ := hq_bind h
      obtain ⟨z8, hz8, h⟩ := hq_bind h
      have t : hq_fx s z8 := by
        clear h
        have h := hz8
        by_cases c9 : x7 = (hq_gi s 49 5)
        · rw [if_pos c9] at h
          obtain ⟨s10, hs10, h⟩ := hq_bind h
          have t := hq_fx_tr t (hq_fx_pi hs10 (by first | decide | omega))
          obtain ⟨s11, hs11, h⟩ := hq_bind h
          have t := hq_fx_tr t (hq_fx_pi hs11 (by first | decide | omega))
          cases h
          exact t
        · rw [if_neg c9] at h
          cases h
          exact t
      exact hq_fx_tr t (e124 (a1 + (1 : Int32)) z8 h)
    · rw [if_neg c6] at h
      have h := Option.some.inj h
      subst h
      exact t
  · rw [if_neg c5] at h
    have h := Option.some.inj h
    subst h
    exact t
theorem f_X9_takeWord_L124_fr {n m : Nat} {a1 : Int32} {s : hq_S} {y : hq_S} (h : f_X9_takeWord_L124 n m a1 s = some y) : hq_fx s y := by
  induction m generalizing a1 s with
  | zero => cases h
  | succ m ih => exact f_X9_takeWord_L124_B_fr (n := n) (a1 := a1) (q124 := f_X9_takeWord_L124 n m) (fun a1 s h => ih h) h
theorem f_X9_takeWord_J99_fr {n : Nat} {s : hq_S} {y : hq_S} (h : f_X9_takeWord_J99 n s = some y) : hq_fx s y := by
  unfold f_X9_takeWord_J99 at h
  have t := hq_fx_rf s
  obtain ⟨z2, hz2, h⟩ := hq_bind h
  obtain ⟨s4, hs4, h⟩ := hq_bind h
  have t := hq_fx_tr t (hq_fx_pi hs4 (by first | decide | omega))
  exact hq_fx_tr t (f_X9_takeWord_L124_fr h)
theorem f_X9_takeWord_L0_B_fr {n : Nat} {q0 : hq_S → Option hq_S} {s : hq_S} {y : hq_S} (e0 : ∀ (o1 : Option Value) (s : hq_S), q0 s = some y → hq_fx s y) (h : f_X9_takeWord_L0_B n q0 s = some y) : hq_fx s y := by
  unfold f_X9_takeWord_L0_B at h
  have t := hq_fx_rf s
  by_cases c1 : (hq_gi s 49 3) < (hq_gi s 49 2)
  · rw [if_pos c1] at h
    obtain ⟨x12, hx12, h⟩ := hq_bind h
    by_cases c13 : x12 < (97 : Int32)
    · rw [if_pos c13] at h
      exact hq_fx_tr t (f_X9_takeWord_J99_fr h)
    · rw [if_neg c13] at h
      obtain ⟨x14, hx14, h⟩ := hq_bind h
      by_cases c15 : (122 : Int32) < x14
      · rw [if_pos c15] at h
        exact hq_fx_tr t (f_X9_takeWord_J99_fr h)
      · rw [if_neg c15] at h
        obtain ⟨z16, hz16, h⟩ := hq_bind h
        obtain ⟨s19, hs19, h⟩ := hq_bind h
        have t := hq_fx_tr t (hq_fx_pi hs19 (by first | decide | omega))
        obtain ⟨s20, hs20, h⟩ := hq_bind h
        have t := hq_fx_tr t (hq_fx_pi hs20 (by first | decide | omega))
        exact hq_fx_tr t (e0 none s20 h)
  · rw [if_neg c1] at h
    exact hq_fx_tr t (f_X9_takeWord_J99_fr h)
theorem f_X9_takeWord_L0_fr {n m : Nat} {s : hq_S} {y : hq_S} (h : f_X9_takeWord_L0 n m s = some y) : hq_fx s y := by
  induction m generalizing s with
  | zero => cases h
  | succ m ih => exact f_X9_takeWord_L0_B_fr (n := n) (q0 := f_X9_takeWord_L0 n m) (fun _ s h => ih h) h
theorem f_X9_takeWord_fr {n : Nat} {s : hq_S} {y : hq_S} (h : f_X9_takeWord n s = some y) : hq_fx s y := by
  unfold f_X9_takeWord at h
  have t := hq_fx_rf s
  exact hq_fx_tr t (f_X9_takeWord_L0_fr h)
theorem f_X9_takeNumber_L5_B_fr {n : Nat} {q5 : hq_S → Option hq_S} {s : hq_S} {y : hq_S} (e5 : ∀ (s : hq_S), q5 s = some y → hq_fx s y) (h : f_X9_takeNumber_L5_B n q5 s = some y) : hq_fx s y := by
  unfold f_X9_takeNumber_L5_B at h
  have t := hq_fx_rf s
  by_cases c2 : (hq_gi s 49 3) < (hq_gi s 49 2)
  · rw [if_pos c2] at h
    obtain ⟨x3, hx3, h⟩ := hq_bind h
    by_cases c4 : x3 < (48 : Int32)
    · rw [if_pos c4] at h
      have h := Option.some.inj h
      subst h
      exact t
    · rw [if_neg c4] at h
      obtain ⟨x5, hx5, h⟩ := hq_bind h
      by_cases c6 : (57 : Int32) < x5
      · rw [if_pos c6] at h
        have h := Option.some.inj h
        subst h
        exact t
      · rw [if_neg c6] at h
        obtain ⟨z7, hz7, h⟩ := hq_bind h
        obtain ⟨s10, hs10, h⟩ := hq_bind h
        have t := hq_fx_tr t (hq_fx_pi hs10 (by first | decide | omega))
        obtain ⟨s11, hs11, h⟩ := hq_bind h
        have t := hq_fx_tr t (hq_fx_pi hs11 (by first | decide | omega))
        exact hq_fx_tr t (e5 s11 h)
  · rw [if_neg c2] at h
    have h := Option.some.inj h
    subst h
    exact t
theorem f_X9_takeNumber_L5_fr {n m : Nat} {s : hq_S} {y : hq_S} (h : f_X9_takeNumber_L5 n m s = some y) : hq_fx s y := by
  induction m generalizing s with
  | zero => cases h
  | succ m ih => exact f_X9_takeNumber_L5_B_fr (n := n) (q5 := f_X9_takeNumber_L5 n m) (fun s h => ih h) h
theorem f_X9_takeNumber_fr {n : Nat} {s : hq_S} {y : hq_S} (h : f_X9_takeNumber n s = some y) : hq_fx s y := by
  unfold f_X9_takeNumber at h
  have t := hq_fx_rf s
  obtain ⟨s1, hs1, h⟩ := hq_bind h
  have t := hq_fx_tr t (hq_fx_pi hs1 (by first | decide | omega))
  exact hq_fx_tr t (f_X9_takeNumber_L5_fr h)
theorem f_X9_isSign_fr {n : Nat} {a0 : Int32} {s : hq_S} {y : (Int32 × hq_S)} (h : f_X9_isSign n a0 s = some y) : hq_fx s y.2 := by
  unfold f_X9_isSign at h
  have t := hq_fx_rf s
  by_cases c1 : a0 = (40 : Int32)
  · rw [if_pos c1] at h
    have h := Option.some.inj h
    subst h
    exact t
  rw [if_neg c1] at h
  by_cases c2 : a0 = (41 : Int32)
  · rw [if_pos c2] at h
    have h := Option.some.inj h
    subst h
    exact t
  rw [if_neg c2] at h
  by_cases c3 : a0 = (42 : Int32)
  · rw [if_pos c3] at h
    have h := Option.some.inj h
    subst h
    exact t
  rw [if_neg c3] at h
  by_cases c4 : a0 = (43 : Int32)
  · rw [if_pos c4] at h
    have h := Option.some.inj h
    subst h
    exact t
  rw [if_neg c4] at h
  by_cases c5 : a0 = (44 : Int32)
  · rw [if_pos c5] at h
    have h := Option.some.inj h
    subst h
    exact t
  rw [if_neg c5] at h
  by_cases c6 : a0 = (45 : Int32)
  · rw [if_pos c6] at h
    have h := Option.some.inj h
    subst h
    exact t
  rw [if_neg c6] at h
  by_cases c7 : a0 = (46 : Int32)
  · rw [if_pos c7] at h
    have h := Option.some.inj h
    subst h
    exact t
  rw [if_neg c7] at h
  by_cases c8 : a0 = (47 : Int32)
  · rw [if_pos c8] at h
    have h := Option.some.inj h
    subst h
    exact t
  rw [if_neg c8] at h
  by_cases c9 : a0 = (48 : Int32)
  · rw [if_pos c9] at h
    have h := Option.some.inj h
    subst h
    exact t
  rw [if_neg c9] at h
  by_cases c10 : a0 = (49 : Int32)
  · rw [if_pos c10] at h
    have h := Option.some.inj h
    subst h
    exact t
  rw [if_neg c10] at h
  by_cases c11 : a0 = (50 : Int32)
  · rw [if_pos c11] at h
    have h := Option.some.inj h
    subst h
    exact t
  rw [if_neg c11] at h
  by_cases c12 : a0 = (51 : Int32)
  · rw [if_pos c12] at h
    have h := Option.some.inj h
    subst h
    exact t
  rw [if_neg c12] at h
  by_cases c13 : a0 = (52 : Int32)
  · rw [if_pos c13] at h
    have h := Option.some.inj h
    subst h
    exact t
  rw [if_neg c13] at h
  by_cases c14 : a0 = (53 : Int32)
  · rw [if_pos c14] at h
    have h := Option.some.inj h
    subst h
    exact t
  rw [if_neg c14] at h
  by_cases c15 : a0 = (54 : Int32)
  · rw [if_pos c15] at h
    have h := Option.some.inj h
    subst h
    exact t
  rw [if_neg c15] at h
  by_cases c16 : a0 = (55 : Int32)
  · rw [if_pos c16] at h
    have h := Option.some.inj h
    subst h
    exact t
  rw [if_neg c16] at h
  by_cases c17 : a0 = (56 : Int32)
  · rw [if_pos c17] at h
    have h := Option.some.inj h
    subst h
    exact t
  rw [if_neg c17] at h
  by_cases c18 : a0 = (57 : Int32)
  · rw [if_pos c18] at h
    have h := Option.some.inj h
    subst h
    exact t
  rw [if_neg c18] at h
  by_cases c19 : a0 = (58 : Int32)
  · rw [if_pos c19] at h
    have h := Option.some.inj h
    subst h
    exact t
  rw [if_neg c19] at h
  by_cases c20 : a0 = (59 : Int32)
  · rw [if_pos c20] at h
    have h := Option.some.inj h
    subst h
    exact t
  rw [if_neg c20] at h
  by_cases c21 : a0 = (60 : Int32)
  · rw [if_pos c21] at h
    have h := Option.some.inj h
    subst h
    exact t
  rw [if_neg c21] at h
  by_cases c22 : a0 = (61 : Int32)
  · rw [if_pos c22] at h
    have h := Option.some.inj h
    subst h
    exact t
  rw [if_neg c22] at h
  by_cases c23 : a0 = (62 : Int32)
  · rw [if_pos c23] at h
    have h := Option.some.inj h
    subst h
    exact t
  rw [if_neg c23] at h
  have h := Option.some.inj h
  subst h
  exact t
theorem f_X9_takeSign_J104_fr {n : Nat} {a1 : Int32} {a2 : Int32} {s : hq_S} {y : hq_S} (h : f_X9_takeSign_J104 n a1 a2 s = some y) : hq_fx s y := by
  unfold f_X9_takeSign_J104 at h
  have t := hq_fx_rf s
  by_cases c8 : a1 = (62 : Int32)
  · rw [if_pos c8] at h
    by_cases c9 : a2 = (61 : Int32)
    · rw [if_pos c9] at h
      obtain ⟨s10, hs10, h⟩ := hq_bind h
      have t := hq_fx_tr t (hq_fx_pi hs10 (by first | decide | omega))
      obtain ⟨s11, hs11, h⟩ := hq_bind h
      have t := hq_fx_tr t (hq_fx_pi hs11 (by first | decide | omega))
      have h := Option.some.inj h
      subst h
      exact t
    · rw [if_neg c9] at h
      have h := Option.some.inj h
      subst h
      exact t
  · rw [if_neg c8] at h
    have h := Option.some.inj h
    subst h
    exact t
theorem f_X9_takeSign_J72_fr {n : Nat} {a1 : Int32} {a2 : Int32} {s : hq_S} {y : hq_S} (h : f_X9_takeSign_J72 n a1 a2 s = some y) : hq_fx s y := by
  unfold f_X9_takeSign_J72 at h
  have t := hq_fx_rf s
  by_cases c7 : a1 = (60 : Int32)
  · rw [if_pos c7] at h
    by_cases c12 : a2 = (62 : Int32)
    · rw [if_pos c12] at h
      obtain ⟨s13, hs13, h⟩ := hq_bind h
      have t := hq_fx_tr t (hq_fx_pi hs13 (by first | decide | omega))
      obtain ⟨s14, hs14, h⟩ := hq_bind h
      have t := hq_fx_tr t (hq_fx_pi hs14 (by first | decide | omega))
      have h := Option.some.inj h
      subst h
      exact t
    · rw [if_neg c12] at h
      exact hq_fx_tr t (f_X9_takeSign_J104_fr h)
  · rw [if_neg c7] at h
    exact hq_fx_tr t (f_X9_takeSign_J104_fr h)
theorem f_X9_takeSign_fr {n : Nat} {a1 : Int32} {s : hq_S} {y : hq_S} (h : f_X9_takeSign n a1 s = some y) : hq_fx s y := by
  unfold f_X9_takeSign at h
  have t := hq_fx_rf s
  obtain ⟨s1, hs1, h⟩ := hq_bind h
  have t := hq_fx_tr t (hq_fx_pi hs1 (by first | decide | omega))
  obtain ⟨s2, hs2, h⟩ := hq_bind h
  have t := hq_fx_tr t (hq_fx_pi hs2 (by first | decide | omega))
  obtain ⟨z3, hz3, h⟩ := hq_bind h
  by_cases c6 : a1 = (60 : Int32)
  · rw [if_pos c6] at h
    by_cases c15 : z3 = (61 : Int32)
    · rw [if_pos c15] at h
      obtain ⟨s16, hs16, h⟩ := hq_bind h
      have t := hq_fx_tr t (hq_fx_pi hs16 (by first | decide | omega))
      obtain ⟨s17, hs17, h⟩ := hq_bind h
      have t := hq_fx_tr t (hq_fx_pi hs17 (by first | decide | omega))
      have h := Option.some.inj h
      subst h
      exact t
    · rw [if_neg c15] at h
      exact hq_fx_tr t (f_X9_takeSign_J72_fr h)
  · rw [if_neg c6] at h
    exact hq_fx_tr t (f_X9_takeSign_J72_fr h)
theorem f_X9_advance_J147_fr {n : Nat} {a1 : Int32} {s : hq_S} {y : hq_S} (h : f_X9_advance_J147 n a1 s = some y) : hq_fx s y := by
  unfold f_X9_advance_J147 at h
  have t := hq_fx_rf s
  obtain ⟨y10, hy10, h⟩ := hq_bind h
  have t := hq_fx_tr t (f_X9_isSign_fr hy10)
  obtain ⟨z11, hz11, h⟩ := hq_bind h
  obtain ⟨s13, hs13, h⟩ := hq_bind h
  have t := hq_fx_tr t (hq_fx_pi hs13 (by first | decide | omega))
  obtain ⟨s14, hs14, h⟩ := hq_bind h
  have t := hq_fx_tr t (f_X9_takeSign_fr hs14)
  have h := Option.some.inj h
  subst h
  exact t
theorem f_X9_advance_J128_fr {n : Nat} {a1 : Int32} {s : hq_S} {y : hq_S} (h : f_X9_advance_J128 n a1 s = some y) : hq_fx s y := by
  unfold f_X9_advance_J128 at h
  have t := hq_fx_rf s
  by_cases c9 : a1 < (48 : Int32)
  · rw [if_pos c9] at h
    exact hq_fx_tr t (f_X9_advance_J147_fr h)
  · rw [if_neg c9] at h
    by_cases c15 : (57 : Int32) < a1
    · rw [if_pos c15] at h
      exact hq_fx_tr t (f_X9_advance_J147_fr h)
    · rw [if_neg c15] at h
      obtain ⟨s16, hs16, h⟩ := hq_bind h
      have t := hq_fx_tr t (f_X9_takeNumber_fr hs16)
      have h := Option.some.inj h
      subst h
      exact t
theorem f_X9_advance_J52_fr {n : Nat} {s : hq_S} {y : hq_S} (h : f_X9_advance_J52 n s = some y) : hq_fx s y := by
  unfold f_X9_advance_J52 at h
  have t := hq_fx_rf s
  obtain ⟨s2, hs2, h⟩ := hq_bind h
  have t := hq_fx_tr t (hq_fx_pi hs2 (by first | decide | omega))
  obtain ⟨s3, hs3, h⟩ := hq_bind h
  have t := hq_fx_tr t (hq_fx_pi hs3 (by first | decide | omega))
  obtain ⟨z4, hz4, h⟩ := hq_bind h
  by_cases c7 : (hq_gi s3 49 3) < (hq_gi s3 49 2)
  · rw [if_pos c7] at h
    by_cases c8 : z4 < (97 : Int32)
    · rw [if_pos c8] at h
      exact hq_fx_tr t (f_X9_advance_J128_fr h)
    · rw [if_neg c8] at h
      by_cases c17 : (122 : Int32) < z4
      · rw [if_pos c17] at h
        exact hq_fx_tr t (f_X9_advance_J128_fr h)
      · rw [if_neg c17] at h
        obtain ⟨s18, hs18, h⟩ := hq_bind h
        have t := hq_fx_tr t (f_X9_takeWord_fr hs18)
        have h := Option.some.inj h
        subst h
        exact t
  · rw [if_neg c7] at h
    obtain ⟨s19, hs19, h⟩ := hq_bind h
    have t := hq_fx_tr t (hq_fx_pi hs19 (by first | decide | omega))
    have h := Option.some.inj h
    subst h
    exact t
theorem f_X9_advance_J39_fr {n : Nat} {q0 : hq_S → Option hq_S} {s : hq_S} {y : hq_S} (e0 : ∀ (s : hq_S), q0 s = some y → hq_fx s y) (h : f_X9_advance_J39 n q0 s = some y) : hq_fx s y := by
  unfold f_X9_advance_J39 at h
  have t := hq_fx_rf s
  obtain ⟨s22, hs22, h⟩ := hq_bind h
  have t := hq_fx_tr t (hq_fx_pi hs22 (by first | decide | omega))
  exact hq_fx_tr t (e0 s22 h)
theorem f_X9_advance_L0_B_fr {n : Nat} {q0 : hq_S → Option hq_S} {s : hq_S} {y : hq_S} (e0 : ∀ (s : hq_S), q0 s = some y → hq_fx s y) (h : f_X9_advance_L0_B n q0 s = some y) : hq_fx s y := by
  unfold f_X9_advance_L0_B at h
  have t := hq_fx_rf s
  by_cases c1 : (hq_gi s 49 3) < (hq_gi s 49 2)
  · rw [if_pos c1] at h
    obtain ⟨x20, hx20, h⟩ := hq_bind h
    by_cases c21 : x20 = (32 : Int32)
    · rw [if_pos c21] at h
      exact hq_fx_tr t (f_X9_advance_J39_fr e0 h)
    · rw [if_neg c21] at h
      obtain ⟨x23, hx23, h⟩ := hq_bind h
      by_cases c24 : x23 = (10 : Int32)
      · rw [if_pos c24] at h
        exact hq_fx_tr t (f_X9_advance_J39_fr e0 h)
      · rw [if_neg c24] at h
        exact hq_fx_tr t (f_X9_advance_J52_fr h)
  · rw [if_neg c1] at h
    exact hq_fx_tr t (f_X9_advance_J52_fr h)
theorem f_X9_advance_L0_fr {n m : Nat} {s : hq_S} {y : hq_S} (h : f_X9_advance_L0 n m s = some y) : hq_fx s y := by
  induction m generalizing s with
  | zero => cases h
  | succ m ih => exact f_X9_advance_L0_B_fr (n := n) (q0 := f_X9_advance_L0 n m) (fun s h => ih h) h
theorem f_X9_advance_fr {n : Nat} {s : hq_S} {y : hq_S} (h : f_X9_advance n s = some y) : hq_fx s y := by
  unfold f_X9_advance at h
  have t := hq_fx_rf s
  exact hq_fx_tr t (f_X9_advance_L0_fr h)
theorem f_X9_start_fr {n : Nat} {k1 : Nat} {a2 : Int32} {s : hq_S} {y : hq_S} (wk1 : k1 < 174) (h : f_X9_start n k1 a2 s = some y) : hq_fx s y := by
  unfold f_X9_start at h
  have t := hq_fx_rf s
  obtain ⟨s1, hs1, h⟩ := hq_bind h
  have t := hq_fx_tr t (hq_fx_pr hs1 (by first | decide | omega))
  obtain ⟨x2, hx2, h⟩ := hq_bind h
  obtain ⟨s3, hs3, h⟩ := hq_bind h
  have t := hq_fx_tr t (hq_fx_pi hs3 (by first | decide | omega))
  obtain ⟨s4, hs4, h⟩ := hq_bind h
  have t := hq_fx_tr t (hq_fx_pi hs4 (by first | decide | omega))
  obtain ⟨s5, hs5, h⟩ := hq_bind h
  have t := hq_fx_tr t (f_X9_advance_fr hs5)
  have h := Option.some.inj h
  subst h
  exact t
theorem f_X6_failed_fr {n : Nat} {a1 : Int32} {s : hq_S} {y : (Int32 × hq_S)} (h : f_X6_failed n a1 s = some y) : hq_fx s y.2 := by
  unfold f_X6_failed at h
  have t := hq_fx_rf s
  obtain ⟨s1, hs1, h⟩ := hq_bind h
  have t := hq_fx_tr t (hq_fx_pi hs1 (by first | decide | omega))
  obtain ⟨s2, hs2, h⟩ := hq_bind h
  have t := hq_fx_tr t (hq_fx_pi hs2 (by first | decide | omega))
  have h := Option.some.inj h
  subst h
  exact t
theorem f_X6_passLineWord_fr {n : Nat} {a1 : Int32} {a2 : Int32} {s : hq_S} {y : (Int32 × hq_S)} (h : f_X6_passLineWord n a1 a2 s = some y) : hq_fx s y.2 := by
  unfold f_X6_passLineWord at h
  have t := hq_fx_rf s
  by_cases c1 : a1 < a2
  · rw [if_pos c1] at h
    obtain ⟨s2, hs2, h⟩ := hq_bind h
    have t := hq_fx_tr t (f_X9_advance_fr hs2)
    have h := Option.some.inj h
    subst h
    exact t
  · rw [if_neg c1] at h
    obtain ⟨y3, hy3, h⟩ := hq_bind h
    have t := hq_fx_tr t (f_X6_failed_fr hy3)
    have hr : mm_rfit (mm_ret mc_X6_passLineWord) y3.1 = true := hq_ifT h
    rw [if_pos hr] at h
    have h := Option.some.inj h
    subst h
    exact t
theorem f_X10_placeOf_L2_B_fr {n : Nat} {a0 : Int32} {k1 : Nat} {a2 : Int32} {a3 : Int32} {q2 : Int32 → Nat → Int32 → Int32 → hq_S → Option (Int32 × hq_S)} {s : hq_S} {y : (Int32 × hq_S)} (e2 : ∀ (a0 : Int32) (k1 : Nat) (a2 : Int32) (a3 : Int32) (s : hq_S) (wk1 : k1 < 174), q2 a0 k1 a2 a3 s = some y → hq_fx s y.2) (wk1 : k1 < 174) (h : f_X10_placeOf_L2_B n q2 a0 k1 a2 a3 s = some y) : hq_fx s y.2 := by
  unfold f_X10_placeOf_L2_B at h
  have t := hq_fx_rf s
  by_cases c1 : a3 < a2
  · rw [if_pos c1] at h
    obtain ⟨x2, hx2, h⟩ := hq_bind h
    by_cases c3 : a3 < x2
    · rw [if_pos c3] at h
      obtain ⟨x4, hx4, h⟩ := hq_bind h
      by_cases c5 : x4 = a0
      · rw [if_pos c5] at h
        have h := Option.some.inj h
        subst h
        exact t
      · rw [if_neg c5] at h
        exact hq_fx_tr t (e2 a0 k1 a2 (a3 + (1 : Int32)) s (by first | decide | omega) h)
    · rw [if_neg c3] at h
      have h := Option.some.inj h
      subst h
      exact t
  · rw [if_neg c1] at h
    have h := Option.some.inj h
    subst h
    exact t
theorem f_X10_placeOf_L2_fr {n m : Nat} {a0 : Int32} {k1 : Nat} {a2 : Int32} {a3 : Int32} {s : hq_S} {y : (Int32 × hq_S)} (wk1 : k1 < 174) (h : f_X10_placeOf_L2 n m a0 k1 a2 a3 s = some y) : hq_fx s y.2 := by
  induction m generalizing a0 k1 a2 a3 s with
  | zero => cases h
  | succ m ih => exact f_X10_placeOf_L2_B_fr (n := n) (a0 := a0) (k1 := k1) (a2 := a2) (a3 := a3) (q2 := f_X10_placeOf_L2 n m) (fun a0 k1 a2 a3 s wk1 h => ih wk1 h) wk1 h
theorem f_X10_placeOf_fr {n : Nat} {a0 : Int32} {k1 : Nat} {a2 : Int32} {s : hq_S} {y : (Int32 × hq_S)} (wk1 : k1 < 174) (h : f_X10_placeOf n a0 k1 a2 s = some y) : hq_fx s y.2 := by
  unfold f_X10_placeOf at h
  have t := hq_fx_rf s
  exact hq_fx_tr t (f_X10_placeOf_L2_fr (by first | decide | omega) h)
theorem f_X6_newName_fr {n : Nat} {k1 : Nat} {a2 : Int32} {s : hq_S} {y : (Int32 × hq_S)} (wk1 : k1 < 174) (h : f_X6_newName n k1 a2 s = some y) : hq_fx s y.2 := by
  unfold f_X6_newName at h
  have t := hq_fx_rf s
  by_cases c1 : (hq_gi s 49 4) = (2 : Int32)
  · rw [if_pos c1] at h
    obtain ⟨y2, hy2, h⟩ := hq_bind h
    have t := hq_fx_tr t (f_X10_placeOf_fr (by first | decide | omega) hy2)
    by_cases c3 : y2.1 = (-1 : Int32)
    · rw [if_pos c3] at h
      obtain ⟨s4, hs4, h⟩ := hq_bind h
      have t := hq_fx_tr t (f_X9_advance_fr hs4)
      have h := Option.some.inj h
      subst h
      exact t
    · rw [if_neg c3] at h
      obtain ⟨y5, hy5, h⟩ := hq_bind h
      have t := hq_fx_tr t (f_X6_failed_fr hy5)
      have h := Option.some.inj h
      subst h
      exact t
  · rw [if_neg c1] at h
    obtain ⟨y6, hy6, h⟩ := hq_bind h
    have t := hq_fx_tr t (f_X6_failed_fr hy6)
    have h := Option.some.inj h
    subst h
    exact t
theorem f_X6_passNumber_fr {n : Nat} {a1 : Int32} {s : hq_S} {y : (Int32 × hq_S)} (h : f_X6_passNumber n a1 s = some y) : hq_fx s y.2 := by
  unfold f_X6_passNumber at h
  have t := hq_fx_rf s
  by_cases c1 : (hq_gi s 49 4) = (4 : Int32)
  · rw [if_pos c1] at h
    by_cases c2 : a1 < (hq_gi s 49 5)
    · rw [if_pos c2] at h
      obtain ⟨y4, hy4, h⟩ := hq_bind h
      have t := hq_fx_tr t (f_X6_failed_fr hy4)
      have h := Option.some.inj h
      subst h
      exact t
    · rw [if_neg c2] at h
      obtain ⟨s3, hs3, h⟩ := hq_bind h
      have t := hq_fx_tr t (f_X9_advance_fr hs3)
      have h := Option.some.inj h
      subst h
      exact t
  · rw [if_neg c1] at h
    obtain ⟨y5, hy5, h⟩ := hq_bind h
    have t := hq_fx_tr t (f_X6_failed_fr hy5)
    have h := Option.some.inj h
    subst h
    exact t
theorem f_X10_addCorner_fr {n : Nat} {k0 : Nat} {a1 : Int32} {a2 : Int32} {a3 : Int32} {s : hq_S} {y : (Int32 × hq_S)} (m0_ : hq_isT k0) (h : f_X10_addCorner n k0 a1 a2 a3 s = some y) : hq_fx s y.2 := by
  unfold f_X10_addCorner at h
  have bm0_ := hq_leT m0_
  have t := hq_fx_rf s
  by_cases c1 : (hq_gi s k0 0) < (10 : Int32)
  · rw [if_pos c1] at h
    obtain ⟨s2, hs2, h⟩ := hq_bind h
    have t := hq_fx_tr t (hq_fx_st hs2 (by first | decide | omega))
    obtain ⟨s3, hs3, h⟩ := hq_bind h
    have t := hq_fx_tr t (hq_fx_st hs3 (by first | decide | omega))
    obtain ⟨s4, hs4, h⟩ := hq_bind h
    have t := hq_fx_tr t (hq_fx_st hs4 (by first | decide | omega))
    obtain ⟨s5, hs5, h⟩ := hq_bind h
    have t := hq_fx_tr t (hq_fx_pi hs5 (by first | decide | omega))
    have h := Option.some.inj h
    subst h
    exact t
  · rw [if_neg c1] at h
    have h := Option.some.inj h
    subst h
    exact t
theorem f_X6_readCorner_fr {n : Nat} {s : hq_S} {y : (Int32 × hq_S)} (h : f_X6_readCorner n s = some y) : hq_fx s y.2 := by
  unfold f_X6_readCorner at h
  have t := hq_fx_rf s
  have m1 : hq_isT (hq_gr s 48 1) := hq_ifT h
  have bm1 := hq_leT m1
  rw [if_pos m1] at h
  obtain ⟨y2, hy2, h⟩ := hq_bind h
  have t := hq_fx_tr t (f_X6_passLineWord_fr hy2)
  by_cases c3 : y2.1 = 0
  · rw [if_pos c3] at h
    have h := Option.some.inj h
    subst h
    exact t
  · rw [if_neg c3] at h
    have m4 : hq_isT (hq_gr y2.2 48 1) := hq_ifT h
    have bm4 := hq_leT m4
    rw [if_pos m4] at h
    have m5 : hq_isT (hq_gr y2.2 48 1) := hq_ifT h
    have bm5 := hq_leT m5
    rw [if_pos m5] at h
    obtain ⟨y6, hy6, h⟩ := hq_bind h
    have t := hq_fx_tr t (f_X6_newName_fr (by first | decide | omega) hy6)
    obtain ⟨z7, hz7, h⟩ := hq_bind h
    have t : hq_fx s z7.2 := by
      clear h
      have h := hz7
      by_cases c8 : y6.1 = (-1 : Int32)
      · rw [if_pos c8] at h
        cases h
        exact t
      · rw [if_neg c8] at h
        obtain ⟨y9, hy9, h⟩ := hq_bind h
        have t := hq_fx_tr t (f_X6_passNumber_fr hy9)
        cases h
        exact t
    obtain ⟨z10, hz10, h⟩ := hq_bind h
    have t : hq_fx s z10.2 := by
      clear h
      have h := hz10
      by_cases c11 : z7.1 = (-1 : Int32)
      · rw [if_pos c11] at h
        cases h
        exact t
      · rw [if_neg c11] at h
        obtain ⟨y12, hy12, h⟩ := hq_bind h
        have t := hq_fx_tr t (f_X6_passNumber_fr hy12)
        cases h
        exact t
    by_cases c13 : z10.1 = (-1 : Int32)
    · rw [if_pos c13] at h
      have h := Option.some.inj h
      subst h
      exact t
    · rw [if_neg c13] at h
      have m14 : hq_isT (hq_gr z10.2 48 1) := hq_ifT h
      have bm14 := hq_leT m14
      rw [if_pos m14] at h
      obtain ⟨y15, hy15, h⟩ := hq_bind h
      have t := hq_fx_tr t (f_X10_addCorner_fr m14 hy15)
      by_cases c16 : y15.1 = 0
      · rw [if_pos c16] at h
        have h := Option.some.inj h
        subst h
        exact t
      · rw [if_neg c16] at h
        have h := Option.some.inj h
        subst h
        exact t
theorem f_X6_toldOne_fr {n : Nat} {k1 : Nat} {a2 : Int32} {s : hq_S} {y : (Int32 × hq_S)} (wk1 : k1 < 174) (h : f_X6_toldOne n k1 a2 s = some y) : hq_fx s y.2 := by
  unfold f_X6_toldOne at h
  have t := hq_fx_rf s
  by_cases c1 : (hq_gi s 49 4) = (2 : Int32)
  · rw [if_pos c1] at h
    obtain ⟨y2, hy2, h⟩ := hq_bind h
    have t := hq_fx_tr t (f_X10_placeOf_fr (by first | decide | omega) hy2)
    by_cases c3 : y2.1 = (-1 : Int32)
    · rw [if_pos c3] at h
      obtain ⟨y4, hy4, h⟩ := hq_bind h
      have t := hq_fx_tr t (f_X6_failed_fr hy4)
      have h := Option.some.inj h
      subst h
      exact t
    · rw [if_neg c3] at h
      have h := Option.some.inj h
      subst h
      exact t
  · rw [if_neg c1] at h
    obtain ⟨y5, hy5, h⟩ := hq_bind h
    have t := hq_fx_tr t (f_X6_failed_fr hy5)
    have h := Option.some.inj h
    subst h
    exact t
theorem f_X6_passCorner_fr {n : Nat} {s : hq_S} {y : (Int32 × hq_S)} (h : f_X6_passCorner n s = some y) : hq_fx s y.2 := by
  unfold f_X6_passCorner at h
  have t := hq_fx_rf s
  have m1 : hq_isT (hq_gr s 48 1) := hq_ifT h
  have bm1 := hq_leT m1
  rw [if_pos m1] at h
  have m2 : hq_isT (hq_gr s 48 1) := hq_ifT h
  have bm2 := hq_leT m2
  rw [if_pos m2] at h
  obtain ⟨y3, hy3, h⟩ := hq_bind h
  have t := hq_fx_tr t (f_X6_toldOne_fr (by first | decide | omega) hy3)
  by_cases c4 : y3.1 = (-1 : Int32)
  · rw [if_pos c4] at h
    have h := Option.some.inj h
    subst h
    exact t
  · rw [if_neg c4] at h
    obtain ⟨s5, hs5, h⟩ := hq_bind h
    have t := hq_fx_tr t (f_X9_advance_fr hs5)
    have h := Option.some.inj h
    subst h
    exact t
theorem f_X10_isOneWay_fr {n : Nat} {k0 : Nat} {a1 : Int32} {s : hq_S} {y : (Int32 × hq_S)} (m0_ : hq_isT k0) (h : f_X10_isOneWay n k0 a1 s = some y) : hq_fx s y.2 := by
  unfold f_X10_isOneWay at h
  have bm0_ := hq_leT m0_
  have t := hq_fx_rf s
  by_cases c1 : (((hq_gi s k0 6) >>> (a1 &&& 31)) &&& (1 : Int32)) = (1 : Int32)
  · rw [if_pos c1] at h
    have h := Option.some.inj h
    subst h
    exact t
  · rw [if_neg c1] at h
    have h := Option.some.inj h
    subst h
    exact t
theorem f_X10_hasLane_J91_fr {n : Nat} {k0 : Nat} {a1 : Int32} {a2 : Int32} {a3 : Int32} {a4 : Int32} {a5 : Int32} {q3 : Nat → Int32 → Int32 → Int32 → Int32 → hq_S → Option (Int32 × hq_S)} {s : hq_S} {y : (Int32 × hq_S)} (e3 : ∀ (k0 : Nat) (a1 : Int32) (a2 : Int32) (a3 : Int32) (a4 : Int32) (o5 : Option Value) (s : hq_S) (m0_ : hq_isT k0), q3 k0 a1 a2 a3 a4 s = some y → hq_fx s y.2) (m0_ : hq_isT k0) (h : f_X10_hasLane_J91 n q3 k0 a1 a2 a3 a4 a5 s = some y) : hq_fx s y.2 := by
  unfold f_X10_hasLane_J91 at h
  have bm0_ := hq_leT m0_
  have t := hq_fx_rf s
  exact hq_fx_tr t (e3 k0 a1 a2 a3 (a4 + (1 : Int32)) none s m0_ h)
theorem f_X10_hasLane_J58_fr {n : Nat} {k0 : Nat} {a1 : Int32} {a2 : Int32} {a3 : Int32} {a4 : Int32} {a5 : Int32} {q3 : Nat → Int32 → Int32 → Int32 → Int32 → hq_S → Option (Int32 × hq_S)} {s : hq_S} {y : (Int32 × hq_S)} (e3 : ∀ (k0 : Nat) (a1 : Int32) (a2 : Int32) (a3 : Int32) (a4 : Int32) (o5 : Option Value) (s : hq_S) (m0_ : hq_isT k0), q3 k0 a1 a2 a3 a4 s = some y → hq_fx s y.2) (m0_ : hq_isT k0) (h : f_X10_hasLane_J58 n q3 k0 a1 a2 a3 a4 a5 s = some y) : hq_fx s y.2 := by
  unfold f_X10_hasLane_J58 at h
  have bm0_ := hq_leT m0_
  have t := hq_fx_rf s
  by_cases c6 : a5 = 0
  · rw [if_pos c6] at h
    exact hq_fx_tr t (f_X10_hasLane_J91_fr e3 m0_ h)
  · rw [if_neg c6] at h
    by_cases c7 : a3 = 0
    · rw [if_pos c7] at h
      obtain ⟨x8, hx8, h⟩ := hq_bind h
      by_cases c9 : x8 = a2
      · rw [if_pos c9] at h
        obtain ⟨x10, hx10, h⟩ := hq_bind h
        by_cases c11 : x10 = a1
        · rw [if_pos c11] at h
          have h := Option.some.inj h
          subst h
          exact t
        · rw [if_neg c11] at h
          exact hq_fx_tr t (f_X10_hasLane_J91_fr e3 m0_ h)
      · rw [if_neg c9] at h
        exact hq_fx_tr t (f_X10_hasLane_J91_fr e3 m0_ h)
    · rw [if_neg c7] at h
      exact hq_fx_tr t (f_X10_hasLane_J91_fr e3 m0_ h)
theorem f_X10_hasLane_L3_B_fr {n : Nat} {k0 : Nat} {a1 : Int32} {a2 : Int32} {a3 : Int32} {a4 : Int32} {q3 : Nat → Int32 → Int32 → Int32 → Int32 → hq_S → Option (Int32 × hq_S)} {s : hq_S} {y : (Int32 × hq_S)} (e3 : ∀ (k0 : Nat) (a1 : Int32) (a2 : Int32) (a3 : Int32) (a4 : Int32) (o5 : Option Value) (s : hq_S) (m0_ : hq_isT k0), q3 k0 a1 a2 a3 a4 s = some y → hq_fx s y.2) (m0_ : hq_isT k0) (h : f_X10_hasLane_L3_B n q3 k0 a1 a2 a3 a4 s = some y) : hq_fx s y.2 := by
  unfold f_X10_hasLane_L3_B at h
  have bm0_ := hq_leT m0_
  have t := hq_fx_rf s
  by_cases c1 : a4 < (hq_gi s k0 3)
  · rw [if_pos c1] at h
    obtain ⟨y2, hy2, h⟩ := hq_bind h
    have t := hq_fx_tr t (f_X10_isOneWay_fr m0_ hy2)
    obtain ⟨z3, hz3, h⟩ := hq_bind h
    by_cases c5 : z3 = 0
    · rw [if_pos c5] at h
      exact hq_fx_tr t (f_X10_hasLane_J58_fr e3 m0_ h)
    · rw [if_neg c5] at h
      obtain ⟨x12, hx12, h⟩ := hq_bind h
      by_cases c13 : x12 = a1
      · rw [if_pos c13] at h
        obtain ⟨x14, hx14, h⟩ := hq_bind h
        by_cases c15 : x14 = a2
        · rw [if_pos c15] at h
          have h := Option.some.inj h
          subst h
          exact t
        · rw [if_neg c15] at h
          exact hq_fx_tr t (f_X10_hasLane_J58_fr e3 m0_ h)
      · rw [if_neg c13] at h
        exact hq_fx_tr t (f_X10_hasLane_J58_fr e3 m0_ h)
  · rw [if_neg c1] at h
    have h := Option.some.inj h
    subst h
    exact t
theorem f_X10_hasLane_L3_fr {n m : Nat} {k0 : Nat} {a1 : Int32} {a2 : Int32} {a3 : Int32} {a4 : Int32} {s : hq_S} {y : (Int32 × hq_S)} (m0_ : hq_isT k0) (h : f_X10_hasLane_L3 n m k0 a1 a2 a3 a4 s = some y) : hq_fx s y.2 := by
  induction m generalizing k0 a1 a2 a3 a4 s with
  | zero => cases h
  | succ m ih => exact f_X10_hasLane_L3_B_fr (n := n) (k0 := k0) (a1 := a1) (a2 := a2) (a3 := a3) (a4 := a4) (q3 := f_X10_hasLane_L3 n m) (fun k0 a1 a2 a3 a4 _ s m0_ h => ih m0_ h) m0_ h
theorem f_X10_hasLane_fr {n : Nat} {k0 : Nat} {a1 : Int32} {a2 : Int32} {a3 : Int32} {s : hq_S} {y : (Int32 × hq_S)} (m0_ : hq_isT k0) (h : f_X10_hasLane n k0 a1 a2 a3 s = some y) : hq_fx s y.2 := by
  unfold f_X10_hasLane at h
  have bm0_ := hq_leT m0_
  have t := hq_fx_rf s
  exact hq_fx_tr t (f_X10_hasLane_L3_fr m0_ h)
theorem f_X10_addLane_fr {n : Nat} {k0 : Nat} {a1 : Int32} {a2 : Int32} {a3 : Int32} {s : hq_S} {y : (Int32 × hq_S)} (m0_ : hq_isT k0) (h : f_X10_addLane n k0 a1 a2 a3 s = some y) : hq_fx s y.2 := by
  unfold f_X10_addLane at h
  have bm0_ := hq_leT m0_
  have t := hq_fx_rf s
  by_cases c1 : (hq_gi s k0 3) < (20 : Int32)
  · rw [if_pos c1] at h
    obtain ⟨s2, hs2, h⟩ := hq_bind h
    have t := hq_fx_tr t (hq_fx_st hs2 (by first | decide | omega))
    obtain ⟨s3, hs3, h⟩ := hq_bind h
    have t := hq_fx_tr t (hq_fx_st hs3 (by first | decide | omega))
    obtain ⟨z4, hz4, h⟩ := hq_bind h
    obtain ⟨s6, hs6, h⟩ := hq_bind h
    have t := hq_fx_tr t (hq_fx_pi hs6 (by first | decide | omega))
    obtain ⟨s7, hs7, h⟩ := hq_bind h
    have t := hq_fx_tr t (hq_fx_pi hs7 (by first | decide | omega))
    have h := Option.some.inj h
    subst h
    exact t
  · rw [if_neg c1] at h
    have h := Option.some.inj h
    subst h
    exact t
theorem f_X6_readLane_fr {n : Nat} {s : hq_S} {y : (Int32 × hq_S)} (h : f_X6_readLane n s = some y) : hq_fx s y.2 := by
  unfold f_X6_readLane at h
  have t := hq_fx_rf s
  obtain ⟨z1, hz1, h⟩ := hq_bind h
  have m3 : hq_isT (hq_gr s 48 1) := hq_ifT h
  have bm3 := hq_leT m3
  rw [if_pos m3] at h
  obtain ⟨y4, hy4, h⟩ := hq_bind h
  have t := hq_fx_tr t (f_X6_passLineWord_fr hy4)
  by_cases c5 : y4.1 = 0
  · rw [if_pos c5] at h
    have h := Option.some.inj h
    subst h
    exact t
  · rw [if_neg c5] at h
    obtain ⟨y6, hy6, h⟩ := hq_bind h
    have t := hq_fx_tr t (f_X6_passCorner_fr hy6)
    obtain ⟨z7, hz7, h⟩ := hq_bind h
    have t : hq_fx s z7.2 := by
      clear h
      have h := hz7
      by_cases c8 : y6.1 = (-1 : Int32)
      · rw [if_pos c8] at h
        cases h
        exact t
      · rw [if_neg c8] at h
        have m9 : hq_isT (hq_gr y6.2 48 1) := hq_ifT h
        have bm9 := hq_leT m9
        rw [if_pos m9] at h
        have m10 : hq_isT (hq_gr y6.2 48 1) := hq_ifT h
        have bm10 := hq_leT m10
        rw [if_pos m10] at h
        obtain ⟨y11, hy11, h⟩ := hq_bind h
        have t := hq_fx_tr t (f_X6_toldOne_fr (by first | decide | omega) hy11)
        cases h
        exact t
    by_cases c12 : z7.1 = (-1 : Int32)
    · rw [if_pos c12] at h
      have h := Option.some.inj h
      subst h
      exact t
    · rw [if_neg c12] at h
      have m13 : hq_isT (hq_gr z7.2 48 1) := hq_ifT h
      have bm13 := hq_leT m13
      rw [if_pos m13] at h
      obtain ⟨y14, hy14, h⟩ := hq_bind h
      have t := hq_fx_tr t (f_X10_hasLane_fr m13 hy14)
      by_cases c15 : y14.1 = 0
      · rw [if_pos c15] at h
        by_cases c16 : y6.1 = z7.1
        · rw [if_pos c16] at h
          obtain ⟨y20, hy20, h⟩ := hq_bind h
          have t := hq_fx_tr t (f_X6_failed_fr hy20)
          have hr : mm_rfit (mm_ret mc_X6_readLane) y20.1 = true := hq_ifT h
          rw [if_pos hr] at h
          have h := Option.some.inj h
          subst h
          exact t
        · rw [if_neg c16] at h
          obtain ⟨s17, hs17, h⟩ := hq_bind h
          have t := hq_fx_tr t (f_X9_advance_fr hs17)
          have m18 : hq_isT (hq_gr s17 48 1) := hq_ifT h
          have bm18 := hq_leT m18
          rw [if_pos m18] at h
          obtain ⟨y19, hy19, h⟩ := hq_bind h
          have t := hq_fx_tr t (f_X10_addLane_fr m18 hy19)
          have hr : mm_rfit (mm_ret mc_X6_readLane) y19.1 = true := hq_ifT h
          rw [if_pos hr] at h
          have h := Option.some.inj h
          subst h
          exact t
      · rw [if_neg c15] at h
        obtain ⟨y21, hy21, h⟩ := hq_bind h
        have t := hq_fx_tr t (f_X6_failed_fr hy21)
        have hr : mm_rfit (mm_ret mc_X6_readLane) y21.1 = true := hq_ifT h
        rw [if_pos hr] at h
        have h := Option.some.inj h
        subst h
        exact t
theorem f_X10_addGuard_fr {n : Nat} {k0 : Nat} {a1 : Int32} {a2 : Int32} {s : hq_S} {y : (Int32 × hq_S)} (m0_ : hq_isT k0) (h : f_X10_addGuard n k0 a1 a2 s = some y) : hq_fx s y.2 := by
  unfold f_X10_addGuard at h
  have bm0_ := hq_leT m0_
  have t := hq_fx_rf s
  by_cases c1 : (hq_gi s k0 7) < (3 : Int32)
  · rw [if_pos c1] at h
    obtain ⟨s2, hs2, h⟩ := hq_bind h
    have t := hq_fx_tr t (hq_fx_st hs2 (by first | decide | omega))
    obtain ⟨s3, hs3, h⟩ := hq_bind h
    have t := hq_fx_tr t (hq_fx_st hs3 (by first | decide | omega))
    obtain ⟨s4, hs4, h⟩ := hq_bind h
    have t := hq_fx_tr t (hq_fx_pi hs4 (by first | decide | omega))
    have h := Option.some.inj h
    subst h
    exact t
  · rw [if_neg c1] at h
    have h := Option.some.inj h
    subst h
    exact t
theorem f_X6_readGuard_fr {n : Nat} {s : hq_S} {y : (Int32 × hq_S)} (h : f_X6_readGuard n s = some y) : hq_fx s y.2 := by
  unfold f_X6_readGuard at h
  have t := hq_fx_rf s
  have m1 : hq_isT (hq_gr s 48 1) := hq_ifT h
  have bm1 := hq_leT m1
  rw [if_pos m1] at h
  obtain ⟨y2, hy2, h⟩ := hq_bind h
  have t := hq_fx_tr t (f_X6_passLineWord_fr hy2)
  by_cases c3 : y2.1 = 0
  · rw [if_pos c3] at h
    have h := Option.some.inj h
    subst h
    exact t
  · rw [if_neg c3] at h
    have m4 : hq_isT (hq_gr y2.2 48 1) := hq_ifT h
    have bm4 := hq_leT m4
    rw [if_pos m4] at h
    have m5 : hq_isT (hq_gr y2.2 48 1) := hq_ifT h
    have bm5 := hq_leT m5
    rw [if_pos m5] at h
    obtain ⟨y6, hy6, h⟩ := hq_bind h
    have t := hq_fx_tr t (f_X6_newName_fr (by first | decide | omega) hy6)
    obtain ⟨z7, hz7, h⟩ := hq_bind h
    have t : hq_fx s z7.2 := by
      clear h
      have h := hz7
      by_cases c8 : y6.1 = (-1 : Int32)
      · rw [if_pos c8] at h
        cases h
        exact t
      · rw [if_neg c8] at h
        obtain ⟨y9, hy9, h⟩ := hq_bind h
        have t := hq_fx_tr t (f_X6_passCorner_fr hy9)
        cases h
        exact t
    by_cases c10 : z7.1 = (-1 : Int32)
    · rw [if_pos c10] at h
      have h := Option.some.inj h
      subst h
      exact t
    · rw [if_neg c10] at h
      have m11 : hq_isT (hq_gr z7.2 48 1) := hq_ifT h
      have bm11 := hq_leT m11
      rw [if_pos m11] at h
      obtain ⟨y12, hy12, h⟩ := hq_bind h
      have t := hq_fx_tr t (f_X10_addGuard_fr m11 hy12)
      by_cases c13 : y12.1 = 0
      · rw [if_pos c13] at h
        have h := Option.some.inj h
        subst h
        exact t
      · rw [if_neg c13] at h
        have h := Option.some.inj h
        subst h
        exact t
theorem f_X10_addPlace_fr {n : Nat} {k0 : Nat} {a1 : Int32} {a2 : Int32} {s : hq_S} {y : hq_S} (m0_ : hq_isT k0) (h : f_X10_addPlace n k0 a1 a2 s = some y) : hq_fx s y := by
  unfold f_X10_addPlace at h
  have bm0_ := hq_leT m0_
  have t := hq_fx_rf s
  obtain ⟨x1, hx1, h⟩ := hq_bind h
  by_cases c2 : x1 < (8 : Int32)
  · rw [if_pos c2] at h
    obtain ⟨x3, hx3, h⟩ := hq_bind h
    obtain ⟨s4, hs4, h⟩ := hq_bind h
    have t := hq_fx_tr t (hq_fx_st hs4 (by first | decide | omega))
    obtain ⟨x5, hx5, h⟩ := hq_bind h
    obtain ⟨s6, hs6, h⟩ := hq_bind h
    have t := hq_fx_tr t (hq_fx_st hs6 (by first | decide | omega))
    have h := Option.some.inj h
    subst h
    exact t
  · rw [if_neg c2] at h
    have h := Option.some.inj h
    subst h
    exact t
theorem f_X6_readBeat_L77_B_fr {n : Nat} {a1 : Int32} {a2 : Int32} {q77 : Int32 → Int32 → hq_S → Option (Int32 × hq_S)} {s : hq_S} {y : (Int32 × hq_S)} (e77 : ∀ (a1 : Int32) (a2 : Int32) (o3 : Option Value) (s : hq_S), q77 a1 a2 s = some y → hq_fx s y.2) (h : f_X6_readBeat_L77_B n q77 a1 a2 s = some y) : hq_fx s y.2 := by
  unfold f_X6_readBeat_L77_B at h
  have t := hq_fx_rf s
  by_cases c11 : (8 : Int32) < a2
  · rw [if_pos c11] at h
    have h := Option.some.inj h
    subst h
    exact t
  · rw [if_neg c11] at h
    by_cases c12 : (hq_gi s 49 4) = (2 : Int32)
    · rw [if_pos c12] at h
      by_cases c13 : a2 = (8 : Int32)
      · rw [if_pos c13] at h
        obtain ⟨y18, hy18, h⟩ := hq_bind h
        have t := hq_fx_tr t (f_X6_failed_fr hy18)
        have hr : mm_rfit (mm_ret mc_X6_readBeat) y18.1 = true := hq_ifT h
        rw [if_pos hr] at h
        have h := Option.some.inj h
        subst h
        exact t
      · rw [if_neg c13] at h
        obtain ⟨y14, hy14, h⟩ := hq_bind h
        have t := hq_fx_tr t (f_X6_passCorner_fr hy14)
        by_cases c15 : y14.1 = (-1 : Int32)
        · rw [if_pos c15] at h
          have h := Option.some.inj h
          subst h
          exact t
        · rw [if_neg c15] at h
          have m16 : hq_isT (hq_gr y14.2 48 1) := hq_ifT h
          have bm16 := hq_leT m16
          rw [if_pos m16] at h
          obtain ⟨s17, hs17, h⟩ := hq_bind h
          have t := hq_fx_tr t (f_X10_addPlace_fr m16 hs17)
          exact hq_fx_tr t (e77 a1 (a2 + (1 : Int32)) none s17 h)
    · rw [if_neg c12] at h
      have h := Option.some.inj h
      subst h
      exact t
theorem f_X6_readBeat_L77_fr {n m : Nat} {a1 : Int32} {a2 : Int32} {s : hq_S} {y : (Int32 × hq_S)} (h : f_X6_readBeat_L77 n m a1 a2 s = some y) : hq_fx s y.2 := by
  induction m generalizing a1 a2 s with
  | zero => cases h
  | succ m ih => exact f_X6_readBeat_L77_B_fr (n := n) (a1 := a1) (a2 := a2) (q77 := f_X6_readBeat_L77 n m) (fun a1 a2 _ s h => ih h) h
theorem f_X6_readBeat_fr {n : Nat} {s : hq_S} {y : (Int32 × hq_S)} (h : f_X6_readBeat n s = some y) : hq_fx s y.2 := by
  unfold f_X6_readBeat at h
  have t := hq_fx_rf s
  obtain ⟨s1, hs1, h⟩ := hq_bind h
  have t := hq_fx_tr t (f_X9_advance_fr hs1)
  have m2 : hq_isT (hq_gr s1 48 1) := hq_ifT h
  have bm2 := hq_leT m2
  rw [if_pos m2] at h
  have m3 : hq_isT (hq_gr s1 48 1) := hq_ifT h
  have bm3 := hq_leT m3
  rw [if_pos m3] at h
  obtain ⟨y4, hy4, h⟩ := hq_bind h
  have t := hq_fx_tr t (f_X6_toldOne_fr (by first | decide | omega) hy4)
  by_cases c5 : y4.1 = (-1 : Int32)
  · rw [if_pos c5] at h
    have h := Option.some.inj h
    subst h
    exact t
  · rw [if_neg c5] at h
    have m6 : hq_isT (hq_gr y4.2 48 1) := hq_ifT h
    have bm6 := hq_leT m6
    rw [if_pos m6] at h
    obtain ⟨x7, hx7, h⟩ := hq_bind h
    by_cases c8 : 0 < x7
    · rw [if_pos c8] at h
      obtain ⟨y20, hy20, h⟩ := hq_bind h
      have t := hq_fx_tr t (f_X6_failed_fr hy20)
      have hr : mm_rfit (mm_ret mc_X6_readBeat) y20.1 = true := hq_ifT h
      rw [if_pos hr] at h
      have h := Option.some.inj h
      subst h
      exact t
    · rw [if_neg c8] at h
      obtain ⟨s9, hs9, h⟩ := hq_bind h
      have t := hq_fx_tr t (f_X9_advance_fr hs9)
      by_cases c10 : (hq_gi s9 49 4) = (2 : Int32)
      · rw [if_pos c10] at h
        exact hq_fx_tr t (f_X6_readBeat_L77_fr h)
      · rw [if_neg c10] at h
        obtain ⟨y19, hy19, h⟩ := hq_bind h
        have t := hq_fx_tr t (f_X6_failed_fr hy19)
        have hr : mm_rfit (mm_ret mc_X6_readBeat) y19.1 = true := hq_ifT h
        rw [if_pos hr] at h
        have h := Option.some.inj h
        subst h
        exact t
theorem f_X10_addThief_fr {n : Nat} {k0 : Nat} {a1 : Int32} {a2 : Int32} {a3 : Int32} {s : hq_S} {y : (Int32 × hq_S)} (m0_ : hq_isT k0) (h : f_X10_addThief n k0 a1 a2 a3 s = some y) : hq_fx s y.2 := by
  unfold f_X10_addThief at h
  have bm0_ := hq_leT m0_
  have t := hq_fx_rf s
  by_cases c1 : (hq_gi s k0 11) < (4 : Int32)
  · rw [if_pos c1] at h
    obtain ⟨s2, hs2, h⟩ := hq_bind h
    have t := hq_fx_tr t (hq_fx_st hs2 (by first | decide | omega))
    obtain ⟨s3, hs3, h⟩ := hq_bind h
    have t := hq_fx_tr t (hq_fx_st hs3 (by first | decide | omega))
    obtain ⟨s4, hs4, h⟩ := hq_bind h
    have t := hq_fx_tr t (hq_fx_st hs4 (by first | decide | omega))
    obtain ⟨s5, hs5, h⟩ := hq_bind h
    have t := hq_fx_tr t (hq_fx_pi hs5 (by first | decide | omega))
    have h := Option.some.inj h
    subst h
    exact t
  · rw [if_neg c1] at h
    have h := Option.some.inj h
    subst h
    exact t
theorem f_X6_readThief_fr {n : Nat} {s : hq_S} {y : (Int32 × hq_S)} (h : f_X6_readThief n s = some y) : hq_fx s y.2 := by
  unfold f_X6_readThief at h
  have t := hq_fx_rf s
  have m1 : hq_isT (hq_gr s 48 1) := hq_ifT h
  have bm1 := hq_leT m1
  rw [if_pos m1] at h
  obtain ⟨y2, hy2, h⟩ := hq_bind h
  have t := hq_fx_tr t (f_X6_passLineWord_fr hy2)
  by_cases c3 : y2.1 = 0
  · rw [if_pos c3] at h
    have h := Option.some.inj h
    subst h
    exact t
  · rw [if_neg c3] at h
    have m4 : hq_isT (hq_gr y2.2 48 1) := hq_ifT h
    have bm4 := hq_leT m4
    rw [if_pos m4] at h
    have m5 : hq_isT (hq_gr y2.2 48 1) := hq_ifT h
    have bm5 := hq_leT m5
    rw [if_pos m5] at h
    obtain ⟨y6, hy6, h⟩ := hq_bind h
    have t := hq_fx_tr t (f_X6_newName_fr (by first | decide | omega) hy6)
    obtain ⟨z7, hz7, h⟩ := hq_bind h
    have t : hq_fx s z7.2 := by
      clear h
      have h := hz7
      by_cases c8 : y6.1 = (-1 : Int32)
      · rw [if_pos c8] at h
        cases h
        exact t
      · rw [if_neg c8] at h
        obtain ⟨y9, hy9, h⟩ := hq_bind h
        have t := hq_fx_tr t (f_X6_passCorner_fr hy9)
        cases h
        exact t
    obtain ⟨z10, hz10, h⟩ := hq_bind h
    have t : hq_fx s z10.2 := by
      clear h
      have h := hz10
      by_cases c11 : z7.1 = (-1 : Int32)
      · rw [if_pos c11] at h
        cases h
        exact t
      · rw [if_neg c11] at h
        obtain ⟨y12, hy12, h⟩ := hq_bind h
        have t := hq_fx_tr t (f_X6_passNumber_fr hy12)
        cases h
        exact t
    by_cases c13 : z10.1 = (-1 : Int32)
    · rw [if_pos c13] at h
      have h := Option.some.inj h
      subst h
      exact t
    · rw [if_neg c13] at h
      have m14 : hq_isT (hq_gr z10.2 48 1) := hq_ifT h
      have bm14 := hq_leT m14
      rw [if_pos m14] at h
      obtain ⟨y15, hy15, h⟩ := hq_bind h
      have t := hq_fx_tr t (f_X10_addThief_fr m14 hy15)
      by_cases c16 : y15.1 = 0
      · rw [if_pos c16] at h
        have h := Option.some.inj h
        subst h
        exact t
      · rw [if_neg c16] at h
        have h := Option.some.inj h
        subst h
        exact t
theorem f_X6_readGrip_fr {n : Nat} {s : hq_S} {y : (Int32 × hq_S)} (h : f_X6_readGrip n s = some y) : hq_fx s y.2 := by
  unfold f_X6_readGrip at h
  have t := hq_fx_rf s
  have m1 : hq_isT (hq_gr s 48 1) := hq_ifT h
  have bm1 := hq_leT m1
  rw [if_pos m1] at h
  by_cases c2 : (hq_gi s (hq_gr s 48 1) 14) = 0
  · rw [if_pos c2] at h
    obtain ⟨s3, hs3, h⟩ := hq_bind h
    have t := hq_fx_tr t (f_X9_advance_fr hs3)
    obtain ⟨y4, hy4, h⟩ := hq_bind h
    have t := hq_fx_tr t (f_X6_passNumber_fr hy4)
    by_cases c5 : y4.1 = (-1 : Int32)
    · rw [if_pos c5] at h
      have h := Option.some.inj h
      subst h
      exact t
    · rw [if_neg c5] at h
      have m6 : hq_isT (hq_gr y4.2 48 1) := hq_ifT h
      have bm6 := hq_leT m6
      rw [if_pos m6] at h
      obtain ⟨s7, hs7, h⟩ := hq_bind h
      have t := hq_fx_tr t (hq_fx_pi hs7 (by first | decide | omega))
      have m8 : hq_isT (hq_gr s7 48 1) := hq_ifT h
      have bm8 := hq_leT m8
      rw [if_pos m8] at h
      obtain ⟨s9, hs9, h⟩ := hq_bind h
      have t := hq_fx_tr t (hq_fx_pi hs9 (by first | decide | omega))
      have h := Option.some.inj h
      subst h
      exact t
  · rw [if_neg c2] at h
    obtain ⟨y10, hy10, h⟩ := hq_bind h
    have t := hq_fx_tr t (f_X6_failed_fr hy10)
    have hr : mm_rfit (mm_ret mc_X6_readGrip) y10.1 = true := hq_ifT h
    rw [if_pos hr] at h
    have h := Option.some.inj h
    subst h
    exact t
theorem f_X6_readSeed_fr {n : Nat} {s : hq_S} {y : (Int32 × hq_S)} (h : f_X6_readSeed n s = some y) : hq_fx s y.2 := by
  unfold f_X6_readSeed at h
  have t := hq_fx_rf s
  have m1 : hq_isT (hq_gr s 48 1) := hq_ifT h
  have bm1 := hq_leT m1
  rw [if_pos m1] at h
  by_cases c2 : (hq_gi s (hq_gr s 48 1) 15) = 0
  · rw [if_pos c2] at h
    obtain ⟨s3, hs3, h⟩ := hq_bind h
    have t := hq_fx_tr t (f_X9_advance_fr hs3)
    obtain ⟨y4, hy4, h⟩ := hq_bind h
    have t := hq_fx_tr t (f_X6_passNumber_fr hy4)
    by_cases c5 : y4.1 = (-1 : Int32)
    · rw [if_pos c5] at h
      have h := Option.some.inj h
      subst h
      exact t
    · rw [if_neg c5] at h
      have m6 : hq_isT (hq_gr y4.2 48 1) := hq_ifT h
      have bm6 := hq_leT m6
      rw [if_pos m6] at h
      obtain ⟨s7, hs7, h⟩ := hq_bind h
      have t := hq_fx_tr t (hq_fx_pj hs7 (by first | decide | omega))
      have m8 : hq_isT (hq_gr s7 48 1) := hq_ifT h
      have bm8 := hq_leT m8
      rw [if_pos m8] at h
      obtain ⟨s9, hs9, h⟩ := hq_bind h
      have t := hq_fx_tr t (hq_fx_pi hs9 (by first | decide | omega))
      have h := Option.some.inj h
      subst h
      exact t
  · rw [if_neg c2] at h
    obtain ⟨y10, hy10, h⟩ := hq_bind h
    have t := hq_fx_tr t (f_X6_failed_fr hy10)
    have hr : mm_rfit (mm_ret mc_X6_readSeed) y10.1 = true := hq_ifT h
    rw [if_pos hr] at h
    have h := Option.some.inj h
    subst h
    exact t
theorem f_X9_isThisSign_fr {n : Nat} {a1 : Int32} {s : hq_S} {y : (Int32 × hq_S)} (h : f_X9_isThisSign n a1 s = some y) : hq_fx s y.2 := by
  unfold f_X9_isThisSign at h
  have t := hq_fx_rf s
  by_cases c1 : (hq_gi s 49 4) = (5 : Int32)
  · rw [if_pos c1] at h
    by_cases c2 : (hq_gi s 49 5) = a1
    · rw [if_pos c2] at h
      have h := Option.some.inj h
      subst h
      exact t
    · rw [if_neg c2] at h
      have h := Option.some.inj h
      subst h
      exact t
  · rw [if_neg c1] at h
    have h := Option.some.inj h
    subst h
    exact t
theorem f_X6_hang_fr {n : Nat} {a1 : Int32} {s : hq_S} {y : hq_S} (h : f_X6_hang n a1 s = some y) : hq_fx s y := by
  unfold f_X6_hang at h
  have t := hq_fx_rf s
  by_cases c1 : (hq_gi s 48 3) < (72 : Int32)
  · rw [if_pos c1] at h
    obtain ⟨s2, hs2, h⟩ := hq_bind h
    have t := hq_fx_tr t (hq_fx_st hs2 (by first | decide | omega))
    obtain ⟨s3, hs3, h⟩ := hq_bind h
    have t := hq_fx_tr t (hq_fx_pi hs3 (by first | decide | omega))
    have h := Option.some.inj h
    subst h
    exact t
  · rw [if_neg c1] at h
    have h := Option.some.inj h
    subst h
    exact t
theorem f_X9_isKey_fr {n : Nat} {a1 : Int32} {s : hq_S} {y : (Int32 × hq_S)} (h : f_X9_isKey n a1 s = some y) : hq_fx s y.2 := by
  unfold f_X9_isKey at h
  have t := hq_fx_rf s
  by_cases c1 : (hq_gi s 49 4) = (3 : Int32)
  · rw [if_pos c1] at h
    by_cases c2 : (hq_gi s 49 5) = a1
    · rw [if_pos c2] at h
      have h := Option.some.inj h
      subst h
      exact t
    · rw [if_neg c2] at h
      have h := Option.some.inj h
      subst h
      exact t
  · rw [if_neg c1] at h
    have h := Option.some.inj h
    subst h
    exact t
theorem f_X6_passKnot_fr {n : Nat} {s : hq_S} {y : (Int32 × hq_S)} (h : f_X6_passKnot n s = some y) : hq_fx s y.2 := by
  unfold f_X6_passKnot at h
  have t := hq_fx_rf s
  have m1 : hq_isT (hq_gr s 48 1) := hq_ifT h
  have bm1 := hq_leT m1
  rw [if_pos m1] at h
  obtain ⟨y2, hy2, h⟩ := hq_bind h
  have t := hq_fx_tr t (f_X4_tellKnot_fr (hq_shT_m9 m1) hy2)
  by_cases c3 : y2.1 = 0
  · rw [if_pos c3] at h
    obtain ⟨y5, hy5, h⟩ := hq_bind h
    have t := hq_fx_tr t (f_X6_failed_fr hy5)
    have hr : mm_rfit (mm_ret mc_X6_passKnot) y5.1 = true := hq_ifT h
    rw [if_pos hr] at h
    have h := Option.some.inj h
    subst h
    exact t
  · rw [if_neg c3] at h
    obtain ⟨s4, hs4, h⟩ := hq_bind h
    have t := hq_fx_tr t (f_X9_advance_fr hs4)
    have h := Option.some.inj h
    subst h
    exact t
theorem f_X9_isName_fr {n : Nat} {s : hq_S} {y : (Int32 × hq_S)} (h : f_X9_isName n s = some y) : hq_fx s y.2 := by
  unfold f_X9_isName at h
  have t := hq_fx_rf s
  by_cases c1 : (hq_gi s 49 4) = (3 : Int32)
  · rw [if_pos c1] at h
    by_cases c2 : (hq_gi s 49 5) < (12 : Int32)
    · rw [if_pos c2] at h
      have h := Option.some.inj h
      subst h
      exact t
    · rw [if_neg c2] at h
      by_cases c3 : (hq_gi s 49 5) < (19 : Int32)
      · rw [if_pos c3] at h
        have h := Option.some.inj h
        subst h
        exact t
      · rw [if_neg c3] at h
        have h := Option.some.inj h
        subst h
        exact t
  · rw [if_neg c1] at h
    have h := Option.some.inj h
    subst h
    exact t
theorem f_X6_readSide_J147_fr {n : Nat} {a1 : Int32} {s : hq_S} {y : (Int32 × hq_S)} (h : f_X6_readSide_J147 n a1 s = some y) : hq_fx s y.2 := by
  unfold f_X6_readSide_J147 at h
  have t := hq_fx_rf s
  have m8 : hq_isT (hq_gr s 48 1) := hq_ifT h
  have bm8 := hq_leT m8
  rw [if_pos m8] at h
  obtain ⟨z9, hz9, h⟩ := hq_bind h
  obtain ⟨s11, hs11, h⟩ := hq_bind h
  have t := hq_fx_tr t (f_X4_put_fr (hq_shT_m9 m8) hs11)
  obtain ⟨s12, hs12, h⟩ := hq_bind h
  have t := hq_fx_tr t (hq_fx_pi hs12 (by first | decide | omega))
  obtain ⟨y13, hy13, h⟩ := hq_bind h
  have t := hq_fx_tr t (f_X6_passKnot_fr hy13)
  have hr : mm_rfit (mm_ret mc_X6_readSide) y13.1 = true := hq_ifT h
  rw [if_pos hr] at h
  have h := Option.some.inj h
  subst h
  exact t
theorem f_X6_readSide_J124_fr {n : Nat} {a1 : Int32} {s : hq_S} {y : (Int32 × hq_S)} (h : f_X6_readSide_J124 n a1 s = some y) : hq_fx s y.2 := by
  unfold f_X6_readSide_J124 at h
  have t := hq_fx_rf s
  by_cases c7 : a1 = 0
  · rw [if_pos c7] at h
    exact hq_fx_tr t (f_X6_readSide_J147_fr h)
  · rw [if_neg c7] at h
    by_cases c14 : (9999 : Int32) < (hq_gi s 49 5)
    · rw [if_pos c14] at h
      obtain ⟨y15, hy15, h⟩ := hq_bind h
      have t := hq_fx_tr t (f_X6_failed_fr hy15)
      have hr : mm_rfit (mm_ret mc_X6_readSide) y15.1 = true := hq_ifT h
      rw [if_pos hr] at h
      have h := Option.some.inj h
      subst h
      exact t
    · rw [if_neg c14] at h
      exact hq_fx_tr t (f_X6_readSide_J147_fr h)
theorem f_X6_readSide_J87_fr {n : Nat} {s : hq_S} {y : (Int32 × hq_S)} (h : f_X6_readSide_J87 n s = some y) : hq_fx s y.2 := by
  unfold f_X6_readSide_J87 at h
  have t := hq_fx_rf s
  obtain ⟨z4, hz4, h⟩ := hq_bind h
  by_cases c6 : z4 = 0
  · rw [if_pos c6] at h
    obtain ⟨y16, hy16, h⟩ := hq_bind h
    have t := hq_fx_tr t (f_X9_isName_fr hy16)
    by_cases c17 : y16.1 = 0
    · rw [if_pos c17] at h
      obtain ⟨y18, hy18, h⟩ := hq_bind h
      have t := hq_fx_tr t (f_X6_failed_fr hy18)
      have hr : mm_rfit (mm_ret mc_X6_readSide) y18.1 = true := hq_ifT h
      rw [if_pos hr] at h
      have h := Option.some.inj h
      subst h
      exact t
    · rw [if_neg c17] at h
      exact hq_fx_tr t (f_X6_readSide_J124_fr h)
  · rw [if_neg c6] at h
    exact hq_fx_tr t (f_X6_readSide_J124_fr h)
theorem f_X6_readSide_fr {n : Nat} {s : hq_S} {y : (Int32 × hq_S)} (h : f_X6_readSide n s = some y) : hq_fx s y.2 := by
  unfold f_X6_readSide at h
  have t := hq_fx_rf s
  obtain ⟨y1, hy1, h⟩ := hq_bind h
  have t := hq_fx_tr t (f_X9_isThisSign_fr hy1)
  by_cases c2 : y1.1 = 0
  · rw [if_pos c2] at h
    by_cases c3 : (hq_gi y1.2 48 6) = 0
    · rw [if_pos c3] at h
      exact hq_fx_tr t (f_X6_readSide_J87_fr h)
    · rw [if_neg c3] at h
      obtain ⟨y19, hy19, h⟩ := hq_bind h
      have t := hq_fx_tr t (f_X9_isKey_fr hy19)
      by_cases c20 : y19.1 = 0
      · rw [if_pos c20] at h
        exact hq_fx_tr t (f_X6_readSide_J87_fr h)
      · rw [if_neg c20] at h
        obtain ⟨s21, hs21, h⟩ := hq_bind h
        have t := hq_fx_tr t (f_X6_hang_fr hs21)
        obtain ⟨y22, hy22, h⟩ := hq_bind h
        have t := hq_fx_tr t (f_X6_passKnot_fr hy22)
        have hr : mm_rfit (mm_ret mc_X6_readSide) y22.1 = true := hq_ifT h
        rw [if_pos hr] at h
        have h := Option.some.inj h
        subst h
        exact t
  · rw [if_neg c2] at h
    by_cases c23 : (hq_gi y1.2 48 4) < (8 : Int32)
    · rw [if_pos c23] at h
      obtain ⟨s24, hs24, h⟩ := hq_bind h
      have t := hq_fx_tr t (hq_fx_pi hs24 (by first | decide | omega))
      obtain ⟨s25, hs25, h⟩ := hq_bind h
      have t := hq_fx_tr t (hq_fx_pi hs25 (by first | decide | omega))
      obtain ⟨s26, hs26, h⟩ := hq_bind h
      have t := hq_fx_tr t (f_X6_hang_fr hs26)
      obtain ⟨s27, hs27, h⟩ := hq_bind h
      have t := hq_fx_tr t (f_X9_advance_fr hs27)
      have h := Option.some.inj h
      subst h
      exact t
    · rw [if_neg c23] at h
      obtain ⟨y28, hy28, h⟩ := hq_bind h
      have t := hq_fx_tr t (f_X6_failed_fr hy28)
      have hr : mm_rfit (mm_ret mc_X6_readSide) y28.1 = true := hq_ifT h
      rw [if_pos hr] at h
      have h := Option.some.inj h
      subst h
      exact t
theorem f_X6_levelOf_fr {n : Nat} {a0 : Int32} {s : hq_S} {y : (Int32 × hq_S)} (h : f_X6_levelOf n a0 s = some y) : hq_fx s y.2 := by
  unfold f_X6_levelOf at h
  have t := hq_fx_rf s
  by_cases c1 : a0 = (19 : Int32)
  · rw [if_pos c1] at h
    have h := Option.some.inj h
    subst h
    exact t
  rw [if_neg c1] at h
  by_cases c2 : a0 = (20 : Int32)
  · rw [if_pos c2] at h
    have h := Option.some.inj h
    subst h
    exact t
  rw [if_neg c2] at h
  by_cases c3 : a0 = (21 : Int32)
  · rw [if_pos c3] at h
    have h := Option.some.inj h
    subst h
    exact t
  rw [if_neg c3] at h
  by_cases c4 : a0 = (42 : Int32)
  · rw [if_pos c4] at h
    have h := Option.some.inj h
    subst h
    exact t
  rw [if_neg c4] at h
  by_cases c5 : a0 = (43 : Int32)
  · rw [if_pos c5] at h
    have h := Option.some.inj h
    subst h
    exact t
  rw [if_neg c5] at h
  by_cases c6 : a0 = (45 : Int32)
  · rw [if_pos c6] at h
    have h := Option.some.inj h
    subst h
    exact t
  rw [if_neg c6] at h
  by_cases c7 : a0 = (47 : Int32)
  · rw [if_pos c7] at h
    have h := Option.some.inj h
    subst h
    exact t
  rw [if_neg c7] at h
  by_cases c8 : a0 = (60 : Int32)
  · rw [if_pos c8] at h
    have h := Option.some.inj h
    subst h
    exact t
  rw [if_neg c8] at h
  by_cases c9 : a0 = (61 : Int32)
  · rw [if_pos c9] at h
    have h := Option.some.inj h
    subst h
    exact t
  rw [if_neg c9] at h
  by_cases c10 : a0 = (62 : Int32)
  · rw [if_pos c10] at h
    have h := Option.some.inj h
    subst h
    exact t
  rw [if_neg c10] at h
  by_cases c11 : a0 = (256 : Int32)
  · rw [if_pos c11] at h
    have h := Option.some.inj h
    subst h
    exact t
  rw [if_neg c11] at h
  by_cases c12 : a0 = (257 : Int32)
  · rw [if_pos c12] at h
    have h := Option.some.inj h
    subst h
    exact t
  rw [if_neg c12] at h
  by_cases c13 : a0 = (258 : Int32)
  · rw [if_pos c13] at h
    have h := Option.some.inj h
    subst h
    exact t
  rw [if_neg c13] at h
  have h := Option.some.inj h
  subst h
  exact t
theorem f_X6_settle_L0_B_fr {n : Nat} {a1 : Int32} {q0 : Int32 → hq_S → Option hq_S} {s : hq_S} {y : hq_S} (e0 : ∀ (a1 : Int32) (s : hq_S), q0 a1 s = some y → hq_fx s y) (h : f_X6_settle_L0_B n q0 a1 s = some y) : hq_fx s y := by
  unfold f_X6_settle_L0_B at h
  have t := hq_fx_rf s
  by_cases c1 : 0 < (hq_gi s 48 3)
  · rw [if_pos c1] at h
    obtain ⟨x2, hx2, h⟩ := hq_bind h
    obtain ⟨y3, hy3, h⟩ := hq_bind h
    have t := hq_fx_tr t (f_X6_levelOf_fr hy3)
    by_cases c4 : y3.1 < a1
    · rw [if_pos c4] at h
      have h := Option.some.inj h
      subst h
      exact t
    · rw [if_neg c4] at h
      obtain ⟨s5, hs5, h⟩ := hq_bind h
      have t := hq_fx_tr t (hq_fx_pi hs5 (by first | decide | omega))
      have m6 : hq_isT (hq_gr s5 48 1) := hq_ifT h
      have bm6 := hq_leT m6
      rw [if_pos m6] at h
      obtain ⟨x7, hx7, h⟩ := hq_bind h
      obtain ⟨s8, hs8, h⟩ := hq_bind h
      have t := hq_fx_tr t (f_X4_put_fr (hq_shT_m9 m6) hs8)
      exact hq_fx_tr t (e0 a1 s8 h)
  · rw [if_neg c1] at h
    have h := Option.some.inj h
    subst h
    exact t
theorem f_X6_settle_L0_fr {n m : Nat} {a1 : Int32} {s : hq_S} {y : hq_S} (h : f_X6_settle_L0 n m a1 s = some y) : hq_fx s y := by
  induction m generalizing a1 s with
  | zero => cases h
  | succ m ih => exact f_X6_settle_L0_B_fr (n := n) (a1 := a1) (q0 := f_X6_settle_L0 n m) (fun a1 s h => ih h) h
theorem f_X6_settle_fr {n : Nat} {a1 : Int32} {s : hq_S} {y : hq_S} (h : f_X6_settle n a1 s = some y) : hq_fx s y := by
  unfold f_X6_settle at h
  have t := hq_fx_rf s
  exact hq_fx_tr t (f_X6_settle_L0_fr h)
theorem f_X6_readJoint_J100_fr {n : Nat} {a1 : Int32} {s : hq_S} {y : (Int32 × hq_S)} (h : f_X6_readJoint_J100 n a1 s = some y) : hq_fx s y.2 := by
  unfold f_X6_readJoint_J100 at h
  have t := hq_fx_rf s
  obtain ⟨s8, hs8, h⟩ := hq_bind h
  have t := hq_fx_tr t (f_X6_settle_fr hs8)
  by_cases c9 : 0 < (hq_gi s8 48 4)
  · rw [if_pos c9] at h
    obtain ⟨y10, hy10, h⟩ := hq_bind h
    have t := hq_fx_tr t (f_X6_failed_fr hy10)
    by_cases c11 : y10.1 = 0
    · rw [if_pos c11] at h
      have h := Option.some.inj h
      subst h
      exact t
    · rw [if_neg c11] at h
      have h := Option.some.inj h
      subst h
      exact t
  · rw [if_neg c9] at h
    have h := Option.some.inj h
    subst h
    exact t
theorem f_X6_readJoint_J167_fr {n : Nat} {a1 : Int32} {s : hq_S} {y : (Int32 × hq_S)} (h : f_X6_readJoint_J167 n a1 s = some y) : hq_fx s y.2 := by
  unfold f_X6_readJoint_J167 at h
  have t := hq_fx_rf s
  obtain ⟨s14, hs14, h⟩ := hq_bind h
  have t := hq_fx_tr t (f_X6_settle_fr hs14)
  obtain ⟨s15, hs15, h⟩ := hq_bind h
  have t := hq_fx_tr t (f_X6_hang_fr hs15)
  obtain ⟨s16, hs16, h⟩ := hq_bind h
  have t := hq_fx_tr t (hq_fx_pi hs16 (by first | decide | omega))
  obtain ⟨z17, hz17, h⟩ := hq_bind h
  obtain ⟨s20, hs20, h⟩ := hq_bind h
  have t := hq_fx_tr t (hq_fx_pi hs20 (by first | decide | omega))
  obtain ⟨y21, hy21, h⟩ := hq_bind h
  have t := hq_fx_tr t (f_X6_passKnot_fr hy21)
  have hr : mm_rfit (mm_ret mc_X6_readJoint) y21.1 = true := hq_ifT h
  rw [if_pos hr] at h
  have h := Option.some.inj h
  subst h
  exact t
theorem f_X6_readJoint_J53_fr {n : Nat} {s : hq_S} {y : (Int32 × hq_S)} (h : f_X6_readJoint_J53 n s = some y) : hq_fx s y.2 := by
  unfold f_X6_readJoint_J53 at h
  have t := hq_fx_rf s
  obtain ⟨z2, hz2, h⟩ := hq_bind h
  have t : hq_fx s z2.2 := by
    clear h
    have h := hz2
    by_cases c3 : (hq_gi s 49 4) = (5 : Int32)
    · rw [if_pos c3] at h
      obtain ⟨y4, hy4, h⟩ := hq_bind h
      have t := hq_fx_tr t (f_X6_levelOf_fr hy4)
      cases h
      exact t
    · rw [if_neg c3] at h
      by_cases c5 : (hq_gi s 49 4) = (3 : Int32)
      · rw [if_pos c5] at h
        obtain ⟨y6, hy6, h⟩ := hq_bind h
        have t := hq_fx_tr t (f_X6_levelOf_fr hy6)
        cases h
        exact t
      · rw [if_neg c5] at h
        cases h
        exact t
  by_cases c7 : z2.1 = (-1 : Int32)
  · rw [if_pos c7] at h
    exact hq_fx_tr t (f_X6_readJoint_J100_fr h)
  · rw [if_neg c7] at h
    by_cases c12 : z2.1 = (2 : Int32)
    · rw [if_pos c12] at h
      exact hq_fx_tr t (f_X6_readJoint_J100_fr h)
    · rw [if_neg c12] at h
      by_cases c13 : z2.1 = (3 : Int32)
      · rw [if_pos c13] at h
        obtain ⟨s22, hs22, h⟩ := hq_bind h
        have t := hq_fx_tr t (f_X6_settle_fr hs22)
        by_cases c23 : 0 < (hq_gi s22 48 3)
        · rw [if_pos c23] at h
          obtain ⟨x24, hx24, h⟩ := hq_bind h
          obtain ⟨y25, hy25, h⟩ := hq_bind h
          have t := hq_fx_tr t (f_X6_levelOf_fr hy25)
          by_cases c26 : y25.1 = (3 : Int32)
          · rw [if_pos c26] at h
            obtain ⟨y27, hy27, h⟩ := hq_bind h
            have t := hq_fx_tr t (f_X6_failed_fr hy27)
            have hr : mm_rfit (mm_ret mc_X6_readJoint) y27.1 = true := hq_ifT h
            rw [if_pos hr] at h
            have h := Option.some.inj h
            subst h
            exact t
          · rw [if_neg c26] at h
            exact hq_fx_tr t (f_X6_readJoint_J167_fr h)
        · rw [if_neg c23] at h
          exact hq_fx_tr t (f_X6_readJoint_J167_fr h)
      · rw [if_neg c13] at h
        exact hq_fx_tr t (f_X6_readJoint_J167_fr h)
theorem f_X6_readJoint_fr {n : Nat} {s : hq_S} {y : (Int32 × hq_S)} (h : f_X6_readJoint n s = some y) : hq_fx s y.2 := by
  unfold f_X6_readJoint at h
  have t := hq_fx_rf s
  by_cases c1 : 0 < (hq_gi s 48 4)
  · rw [if_pos c1] at h
    obtain ⟨y28, hy28, h⟩ := hq_bind h
    have t := hq_fx_tr t (f_X9_isThisSign_fr hy28)
    by_cases c29 : y28.1 = 0
    · rw [if_pos c29] at h
      exact hq_fx_tr t (f_X6_readJoint_J53_fr h)
    · rw [if_neg c29] at h
      obtain ⟨s30, hs30, h⟩ := hq_bind h
      have t := hq_fx_tr t (f_X6_settle_fr hs30)
      obtain ⟨s31, hs31, h⟩ := hq_bind h
      have t := hq_fx_tr t (hq_fx_pi hs31 (by first | decide | omega))
      obtain ⟨s32, hs32, h⟩ := hq_bind h
      have t := hq_fx_tr t (hq_fx_pi hs32 (by first | decide | omega))
      obtain ⟨s33, hs33, h⟩ := hq_bind h
      have t := hq_fx_tr t (f_X9_advance_fr hs33)
      have h := Option.some.inj h
      subst h
      exact t
  · rw [if_neg c1] at h
    exact hq_fx_tr t (f_X6_readJoint_J53_fr h)
theorem f_X6_readLaw_J42_fr {n : Nat} {a1 : Int32} {s : hq_S} {y : (Int32 × hq_S)} (h : f_X6_readLaw_J42 n a1 s = some y) : hq_fx s y.2 := by
  unfold f_X6_readLaw_J42 at h
  have t := hq_fx_rf s
  obtain ⟨y5, hy5, h⟩ := hq_bind h
  have t := hq_fx_tr t (f_X6_failed_fr hy5)
  have hr : mm_rfit (mm_ret mc_X6_readLaw) y5.1 = true := hq_ifT h
  rw [if_pos hr] at h
  have h := Option.some.inj h
  subst h
  exact t
theorem f_X6_readLaw_J146_fr {n : Nat} {a1 : Int32} {a2 : Int32} {a3 : Int32} {s : hq_S} {y : (Int32 × hq_S)} (h : f_X6_readLaw_J146 n a1 a2 a3 s = some y) : hq_fx s y.2 := by
  unfold f_X6_readLaw_J146 at h
  have t := hq_fx_rf s
  by_cases c18 : (hq_gi s 48 7) = 0
  · rw [if_pos c18] at h
    have m19 : hq_isT (hq_gr s 48 1) := hq_ifT h
    have bm19 := hq_leT m19
    rw [if_pos m19] at h
    obtain ⟨s20, hs20, h⟩ := hq_bind h
    have t := hq_fx_tr t (f_X4_close_fr (hq_shT_m9 m19) hs20)
    have h := Option.some.inj h
    subst h
    exact t
  · rw [if_neg c18] at h
    have h := Option.some.inj h
    subst h
    exact t
theorem f_X6_readLaw_L110_B_fr {n : Nat} {a1 : Int32} {a2 : Int32} {a3 : Int32} {q110 : Int32 → Int32 → Int32 → hq_S → Option (Int32 × hq_S)} {s : hq_S} {y : (Int32 × hq_S)} (e110 : ∀ (a1 : Int32) (a2 : Int32) (a3 : Int32) (s : hq_S), q110 a1 a2 a3 s = some y → hq_fx s y.2) (h : f_X6_readLaw_L110_B n q110 a1 a2 a3 s = some y) : hq_fx s y.2 := by
  unfold f_X6_readLaw_L110_B at h
  have t := hq_fx_rf s
  by_cases c17 : (700 : Int32) < a3
  · rw [if_pos c17] at h
    exact hq_fx_tr t (f_X6_readLaw_J146_fr h)
  · rw [if_neg c17] at h
    by_cases c21 : a2 = 0
    · rw [if_pos c21] at h
      exact hq_fx_tr t (f_X6_readLaw_J146_fr h)
    · rw [if_neg c21] at h
      obtain ⟨z22, hz22, h⟩ := hq_bind h
      have t : hq_fx s z22.2 := by
        clear h
        have h := hz22
        by_cases c23 : (hq_gi s 48 5) = 0
        · rw [if_pos c23] at h
          obtain ⟨y24, hy24, h⟩ := hq_bind h
          have t := hq_fx_tr t (f_X6_readJoint_fr hy24)
          cases h
          exact t
        · rw [if_neg c23] at h
          obtain ⟨y25, hy25, h⟩ := hq_bind h
          have t := hq_fx_tr t (f_X6_readSide_fr hy25)
          cases h
          exact t
      exact hq_fx_tr t (e110 a1 z22.1 (a3 + (1 : Int32)) z22.2 h)
theorem f_X6_readLaw_L110_fr {n m : Nat} {a1 : Int32} {a2 : Int32} {a3 : Int32} {s : hq_S} {y : (Int32 × hq_S)} (h : f_X6_readLaw_L110 n m a1 a2 a3 s = some y) : hq_fx s y.2 := by
  induction m generalizing a1 a2 a3 s with
  | zero => cases h
  | succ m ih => exact f_X6_readLaw_L110_B_fr (n := n) (a1 := a1) (a2 := a2) (a3 := a3) (q110 := f_X6_readLaw_L110 n m) (fun a1 a2 a3 s h => ih h) h
theorem f_X6_readLaw_fr {n : Nat} {s : hq_S} {y : (Int32 × hq_S)} (h : f_X6_readLaw n s = some y) : hq_fx s y.2 := by
  unfold f_X6_readLaw at h
  have t := hq_fx_rf s
  obtain ⟨s1, hs1, h⟩ := hq_bind h
  have t := hq_fx_tr t (f_X9_advance_fr hs1)
  obtain ⟨z2, hz2, h⟩ := hq_bind h
  by_cases c4 : z2 < 0
  · rw [if_pos c4] at h
    exact hq_fx_tr t (f_X6_readLaw_J42_fr h)
  · rw [if_neg c4] at h
    by_cases c6 : z2 < (3 : Int32)
    · rw [if_pos c6] at h
      have m7 : hq_isT (hq_gr s1 48 1) := hq_ifT h
      have bm7 := hq_leT m7
      rw [if_pos m7] at h
      obtain ⟨y8, hy8, h⟩ := hq_bind h
      have t := hq_fx_tr t (f_X4_isTold_fr (hq_shT_m9 m7) hy8)
      by_cases c9 : y8.1 = 0
      · rw [if_pos c9] at h
        obtain ⟨s10, hs10, h⟩ := hq_bind h
        have t := hq_fx_tr t (f_X9_advance_fr hs10)
        have m11 : hq_isT (hq_gr s10 48 1) := hq_ifT h
        have bm11 := hq_leT m11
        rw [if_pos m11] at h
        obtain ⟨s12, hs12, h⟩ := hq_bind h
        have t := hq_fx_tr t (f_X4_open_fr (hq_shT_m9 m11) hs12)
        obtain ⟨s13, hs13, h⟩ := hq_bind h
        have t := hq_fx_tr t (hq_fx_pi hs13 (by first | decide | omega))
        obtain ⟨s14, hs14, h⟩ := hq_bind h
        have t := hq_fx_tr t (hq_fx_pi hs14 (by first | decide | omega))
        obtain ⟨s15, hs15, h⟩ := hq_bind h
        have t := hq_fx_tr t (hq_fx_pi hs15 (by first | decide | omega))
        obtain ⟨s16, hs16, h⟩ := hq_bind h
        have t := hq_fx_tr t (hq_fx_pi hs16 (by first | decide | omega))
        exact hq_fx_tr t (f_X6_readLaw_L110_fr h)
      · rw [if_neg c9] at h
        obtain ⟨y26, hy26, h⟩ := hq_bind h
        have t := hq_fx_tr t (f_X6_failed_fr hy26)
        have hr : mm_rfit (mm_ret mc_X6_readLaw) y26.1 = true := hq_ifT h
        rw [if_pos hr] at h
        have h := Option.some.inj h
        subst h
        exact t
    · rw [if_neg c6] at h
      exact hq_fx_tr t (f_X6_readLaw_J42_fr h)
theorem f_X6_readLine_fr {n : Nat} {s : hq_S} {y : (Int32 × hq_S)} (h : f_X6_readLine n s = some y) : hq_fx s y.2 := by
  unfold f_X6_readLine at h
  have t := hq_fx_rf s
  by_cases c1 : (hq_gi s 49 4) = (3 : Int32)
  · rw [if_pos c1] at h
    by_cases c2 : (hq_gi s 49 5) = (0 : Int32)
    · rw [if_pos c2] at h
      obtain ⟨y3, hy3, h⟩ := hq_bind h
      have t := hq_fx_tr t (f_X6_readCorner_fr hy3)
      have hr : mm_rfit (mm_ret mc_X6_readLine) y3.1 = true := hq_ifT h
      rw [if_pos hr] at h
      have h := Option.some.inj h
      subst h
      exact t
    rw [if_neg c2] at h
    by_cases c4 : (hq_gi s 49 5) = (1 : Int32)
    · rw [if_pos c4] at h
      obtain ⟨y5, hy5, h⟩ := hq_bind h
      have t := hq_fx_tr t (f_X6_readLane_fr hy5)
      have hr : mm_rfit (mm_ret mc_X6_readLine) y5.1 = true := hq_ifT h
      rw [if_pos hr] at h
      have h := Option.some.inj h
      subst h
      exact t
    rw [if_neg c4] at h
    by_cases c6 : (hq_gi s 49 5) = (2 : Int32)
    · rw [if_pos c6] at h
      obtain ⟨y7, hy7, h⟩ := hq_bind h
      have t := hq_fx_tr t (f_X6_readLane_fr hy7)
      have hr : mm_rfit (mm_ret mc_X6_readLine) y7.1 = true := hq_ifT h
      rw [if_pos hr] at h
      have h := Option.some.inj h
      subst h
      exact t
    rw [if_neg c6] at h
    by_cases c8 : (hq_gi s 49 5) = (3 : Int32)
    · rw [if_pos c8] at h
      obtain ⟨y9, hy9, h⟩ := hq_bind h
      have t := hq_fx_tr t (f_X6_readGuard_fr hy9)
      have hr : mm_rfit (mm_ret mc_X6_readLine) y9.1 = true := hq_ifT h
      rw [if_pos hr] at h
      have h := Option.some.inj h
      subst h
      exact t
    rw [if_neg c8] at h
    by_cases c10 : (hq_gi s 49 5) = (4 : Int32)
    · rw [if_pos c10] at h
      obtain ⟨y11, hy11, h⟩ := hq_bind h
      have t := hq_fx_tr t (f_X6_readBeat_fr hy11)
      have hr : mm_rfit (mm_ret mc_X6_readLine) y11.1 = true := hq_ifT h
      rw [if_pos hr] at h
      have h := Option.some.inj h
      subst h
      exact t
    rw [if_neg c10] at h
    by_cases c12 : (hq_gi s 49 5) = (5 : Int32)
    · rw [if_pos c12] at h
      obtain ⟨y13, hy13, h⟩ := hq_bind h
      have t := hq_fx_tr t (f_X6_readThief_fr hy13)
      have hr : mm_rfit (mm_ret mc_X6_readLine) y13.1 = true := hq_ifT h
      rw [if_pos hr] at h
      have h := Option.some.inj h
      subst h
      exact t
    rw [if_neg c12] at h
    by_cases c14 : (hq_gi s 49 5) = (6 : Int32)
    · rw [if_pos c14] at h
      obtain ⟨y15, hy15, h⟩ := hq_bind h
      have t := hq_fx_tr t (f_X6_readGrip_fr hy15)
      have hr : mm_rfit (mm_ret mc_X6_readLine) y15.1 = true := hq_ifT h
      rw [if_pos hr] at h
      have h := Option.some.inj h
      subst h
      exact t
    rw [if_neg c14] at h
    by_cases c16 : (hq_gi s 49 5) = (7 : Int32)
    · rw [if_pos c16] at h
      obtain ⟨y17, hy17, h⟩ := hq_bind h
      have t := hq_fx_tr t (f_X6_readSeed_fr hy17)
      have hr : mm_rfit (mm_ret mc_X6_readLine) y17.1 = true := hq_ifT h
      rw [if_pos hr] at h
      have h := Option.some.inj h
      subst h
      exact t
    rw [if_neg c16] at h
    by_cases c18 : (hq_gi s 49 5) = (8 : Int32)
    · rw [if_pos c18] at h
      obtain ⟨y19, hy19, h⟩ := hq_bind h
      have t := hq_fx_tr t (f_X6_readLaw_fr hy19)
      have hr : mm_rfit (mm_ret mc_X6_readLine) y19.1 = true := hq_ifT h
      rw [if_pos hr] at h
      have h := Option.some.inj h
      subst h
      exact t
    rw [if_neg c18] at h
    obtain ⟨y20, hy20, h⟩ := hq_bind h
    have t := hq_fx_tr t (f_X6_failed_fr hy20)
    have hr : mm_rfit (mm_ret mc_X6_readLine) y20.1 = true := hq_ifT h
    rw [if_pos hr] at h
    have h := Option.some.inj h
    subst h
    exact t
  · rw [if_neg c1] at h
    obtain ⟨y21, hy21, h⟩ := hq_bind h
    have t := hq_fx_tr t (f_X6_failed_fr hy21)
    have hr : mm_rfit (mm_ret mc_X6_readLine) y21.1 = true := hq_ifT h
    rw [if_pos hr] at h
    have h := Option.some.inj h
    subst h
    exact t
theorem f_X6_passSign_fr {n : Nat} {a1 : Int32} {s : hq_S} {y : (Int32 × hq_S)} (h : f_X6_passSign n a1 s = some y) : hq_fx s y.2 := by
  unfold f_X6_passSign at h
  have t := hq_fx_rf s
  obtain ⟨y1, hy1, h⟩ := hq_bind h
  have t := hq_fx_tr t (f_X9_isThisSign_fr hy1)
  by_cases c2 : y1.1 = 0
  · rw [if_pos c2] at h
    obtain ⟨y4, hy4, h⟩ := hq_bind h
    have t := hq_fx_tr t (f_X6_failed_fr hy4)
    have hr : mm_rfit (mm_ret mc_X6_passSign) y4.1 = true := hq_ifT h
    rw [if_pos hr] at h
    have h := Option.some.inj h
    subst h
    exact t
  · rw [if_neg c2] at h
    obtain ⟨s3, hs3, h⟩ := hq_bind h
    have t := hq_fx_tr t (f_X9_advance_fr hs3)
    have h := Option.some.inj h
    subst h
    exact t
theorem f_X6_readText_L36_B_fr {n : Nat} {k1 : Nat} {a2 : Int32} {k3 : Nat} {q36 : Nat → Int32 → Nat → hq_S → Option (Int32 × hq_S)} {s : hq_S} {y : (Int32 × hq_S)} (e36 : ∀ (k1 : Nat) (a2 : Int32) (k3 : Nat) (s : hq_S) (m3_ : hq_isT k3) (wk1 : k1 < 174), q36 k1 a2 k3 s = some y → hq_fx s y.2) (m3_ : hq_isT k3) (wk1 : k1 < 174) (h : f_X6_readText_L36_B n q36 k1 a2 k3 s = some y) : hq_fx s y.2 := by
  unfold f_X6_readText_L36_B at h
  have bm3_ := hq_leT m3_
  have t := hq_fx_rf s
  by_cases c8 : (hq_gi s 48 9) < (700 : Int32)
  · rw [if_pos c8] at h
    by_cases c9 : (hq_gi s 49 4) = 0
    · rw [if_pos c9] at h
      have h := Option.some.inj h
      subst h
      exact t
    · rw [if_neg c9] at h
      obtain ⟨y10, hy10, h⟩ := hq_bind h
      have t := hq_fx_tr t (f_X6_readLine_fr hy10)
      by_cases c11 : y10.1 = 0
      · rw [if_pos c11] at h
        have h := Option.some.inj h
        subst h
        exact t
      · rw [if_neg c11] at h
        obtain ⟨y12, hy12, h⟩ := hq_bind h
        have t := hq_fx_tr t (f_X6_passSign_fr hy12)
        by_cases c13 : y12.1 = 0
        · rw [if_pos c13] at h
          have h := Option.some.inj h
          subst h
          exact t
        · rw [if_neg c13] at h
          obtain ⟨s14, hs14, h⟩ := hq_bind h
          have t := hq_fx_tr t (hq_fx_pi hs14 (by first | decide | omega))
          exact hq_fx_tr t (e36 k1 a2 k3 s14 m3_ (by first | decide | omega) h)
  · rw [if_neg c8] at h
    have h := Option.some.inj h
    subst h
    exact t
theorem f_X6_readText_L36_fr {n m : Nat} {k1 : Nat} {a2 : Int32} {k3 : Nat} {s : hq_S} {y : (Int32 × hq_S)} (m3_ : hq_isT k3) (wk1 : k1 < 174) (h : f_X6_readText_L36 n m k1 a2 k3 s = some y) : hq_fx s y.2 := by
  induction m generalizing k1 a2 k3 s with
  | zero => cases h
  | succ m ih => exact f_X6_readText_L36_B_fr (n := n) (k1 := k1) (a2 := a2) (k3 := k3) (q36 := f_X6_readText_L36 n m) (fun k1 a2 k3 s m3_ wk1 h => ih m3_ wk1 h) m3_ wk1 h
theorem f_X6_readText_fr {n : Nat} {k1 : Nat} {a2 : Int32} {k3 : Nat} {s : hq_S} {y : (Int32 × hq_S)} (m3_ : hq_isT k3) (wk1 : k1 < 174) (h : f_X6_readText n k1 a2 k3 s = some y) : hq_fx s y.2 := by
  unfold f_X6_readText at h
  have bm3_ := hq_leT m3_
  have t := hq_fx_rf s
  obtain ⟨s1, hs1, h⟩ := hq_bind h
  have t := hq_fx_tr t (hq_fx_pr hs1 (by first | decide | omega))
  have m2 : hq_isT (hq_gr s1 48 1) := hq_ifT h
  have bm2 := hq_leT m2
  rw [if_pos m2] at h
  obtain ⟨s3, hs3, h⟩ := hq_bind h
  have t := hq_fx_tr t (f_X10_clear_fr m2 hs3)
  obtain ⟨s4, hs4, h⟩ := hq_bind h
  have t := hq_fx_tr t (hq_fx_pi hs4 (by first | decide | omega))
  obtain ⟨s5, hs5, h⟩ := hq_bind h
  have t := hq_fx_tr t (hq_fx_pi hs5 (by first | decide | omega))
  obtain ⟨s6, hs6, h⟩ := hq_bind h
  have t := hq_fx_tr t (hq_fx_pi hs6 (by first | decide | omega))
  obtain ⟨s7, hs7, h⟩ := hq_bind h
  have t := hq_fx_tr t (f_X9_start_fr (by first | decide | omega) hs7)
  exact hq_fx_tr t (f_X6_readText_L36_fr m3_ (by first | decide | omega) h)
theorem f_X7_letGo_L39_B_fr {n : Nat} {k0 : Nat} {k1 : Nat} {a2 : Int32} {a3 : Int32} {a4 : Int32} {q6 : Nat → Nat → Int32 → hq_S → Option hq_S} {q39 : Nat → Nat → Int32 → Int32 → Int32 → hq_S → Option hq_S} {s : hq_S} {y : hq_S} (e6 : ∀ (k0 : Nat) (k1 : Nat) (a2 : Int32) (o3 : Option Value) (o4 : Option Value) (s : hq_S) (m0_ : hq_isS k0) (wk1 : k1 < 174), q6 k0 k1 a2 s = some y → hq_fx s y) (e39 : ∀ (k0 : Nat) (k1 : Nat) (a2 : Int32) (a3 : Int32) (a4 : Int32) (s : hq_S) (m0_ : hq_isS k0) (wk1 : k1 < 174), q39 k0 k1 a2 a3 a4 s = some y → hq_fx s y) (m0_ : hq_isS k0) (wk1 : k1 < 174) (h : f_X7_letGo_L39_B n q6 q39 k0 k1 a2 a3 a4 s = some y) : hq_fx s y := by
  unfold f_X7_letGo_L39_B at h
  have bm0_ := hq_leS m0_
  have t := hq_fx_rf s
  by_cases c7 : a4 < ((1 : Int32) <<< (a2 &&& 31))
  · rw [if_pos c7] at h
    obtain ⟨x8, hx8, h⟩ := hq_bind h
    obtain ⟨s9, hs9, h⟩ := hq_bind h
    have t := hq_fx_tr t (hq_fx_stiA hs9 (by first | decide | omega))
    exact hq_fx_tr t (e39 k0 k1 a2 a3 (a4 + (1 : Int32)) s9 m0_ (by first | decide | omega) h)
  · rw [if_neg c7] at h
    exact hq_fx_tr t (e6 k0 k1 (a2 + (1 : Int32)) none none s m0_ (by first | decide | omega) h)
theorem f_X7_letGo_L39_fr {n m : Nat} {k0 : Nat} {k1 : Nat} {a2 : Int32} {a3 : Int32} {a4 : Int32} {q6 : Nat → Nat → Int32 → hq_S → Option hq_S} {s : hq_S} {y : hq_S} (e6 : ∀ (k0 : Nat) (k1 : Nat) (a2 : Int32) (o3 : Option Value) (o4 : Option Value) (s : hq_S) (m0_ : hq_isS k0) (wk1 : k1 < 174), q6 k0 k1 a2 s = some y → hq_fx s y) (m0_ : hq_isS k0) (wk1 : k1 < 174) (h : f_X7_letGo_L39 n q6 m k0 k1 a2 a3 a4 s = some y) : hq_fx s y := by
  induction m generalizing k0 k1 a2 a3 a4 s with
  | zero => cases h
  | succ m ih => exact f_X7_letGo_L39_B_fr (n := n) (k0 := k0) (k1 := k1) (a2 := a2) (a3 := a3) (a4 := a4) (q39 := f_X7_letGo_L39 n q6 m) e6 (fun k0 k1 a2 a3 a4 s m0_ wk1 h => ih m0_ wk1 h) m0_ wk1 h
theorem f_X7_letGo_L6_B_fr {n : Nat} {k0 : Nat} {k1 : Nat} {a2 : Int32} {q6 : Nat → Nat → Int32 → hq_S → Option hq_S} {s : hq_S} {y : hq_S} (e6 : ∀ (k0 : Nat) (k1 : Nat) (a2 : Int32) (o3 : Option Value) (o4 : Option Value) (s : hq_S) (m0_ : hq_isS k0) (wk1 : k1 < 174), q6 k0 k1 a2 s = some y → hq_fx s y) (m0_ : hq_isS k0) (wk1 : k1 < 174) (h : f_X7_letGo_L6_B n q6 k0 k1 a2 s = some y) : hq_fx s y := by
  unfold f_X7_letGo_L6_B at h
  have bm0_ := hq_leS m0_
  have t := hq_fx_rf s
  by_cases c2 : a2 < (hq_gi s k0 0)
  · rw [if_pos c2] at h
    obtain ⟨x3, hx3, h⟩ := hq_bind h
    obtain ⟨z4, hz4, h⟩ := hq_bind h
    exact hq_fx_tr t (f_X7_letGo_L39_fr e6 m0_ (by first | decide | omega) h)
  · rw [if_neg c2] at h
    have h := Option.some.inj h
    subst h
    exact t
theorem f_X7_letGo_L6_fr {n m : Nat} {k0 : Nat} {k1 : Nat} {a2 : Int32} {s : hq_S} {y : hq_S} (m0_ : hq_isS k0) (wk1 : k1 < 174) (h : f_X7_letGo_L6 n m k0 k1 a2 s = some y) : hq_fx s y := by
  induction m generalizing k0 k1 a2 s with
  | zero => cases h
  | succ m ih => exact f_X7_letGo_L6_B_fr (n := n) (k0 := k0) (k1 := k1) (a2 := a2) (q6 := f_X7_letGo_L6 n m) (fun k0 k1 a2 _ _ s m0_ wk1 h => ih m0_ wk1 h) m0_ wk1 h
theorem f_X7_letGo_fr {n : Nat} {k0 : Nat} {k1 : Nat} {s : hq_S} {y : hq_S} (m0_ : hq_isS k0) (wk1 : k1 < 174) (h : f_X7_letGo n k0 k1 s = some y) : hq_fx s y := by
  unfold f_X7_letGo at h
  have bm0_ := hq_leS m0_
  have t := hq_fx_rf s
  obtain ⟨s1, hs1, h⟩ := hq_bind h
  have t := hq_fx_tr t (hq_fx_stiA hs1 (by first | decide | omega))
  exact hq_fx_tr t (f_X7_letGo_L6_fr m0_ (by first | decide | omega) h)
theorem f_J6_bitCount_0f7a4_fr {n : Nat} {a0 : Int32} {s : hq_S} {y : (Int32 × hq_S)} (h : f_J6_bitCount_0f7a4 n a0 s = some y) : hq_fx s y.2 := by
  unfold f_J6_bitCount_0f7a4 at h
  have t := hq_fx_rf s
  have h := Option.some.inj h
  subst h
  exact t
theorem f_X7_solveAround_L14_B_fr {n : Nat} {a1 : Int32} {a2 : Int32} {a3 : Int32} {a4 : Int32} {a5 : Int32} {a6 : Int32} {a7 : Int32} {q14 : Int32 → Int32 → Int32 → Int32 → Int32 → Int32 → Int32 → hq_S → Option (Int32 × hq_S)} {s : hq_S} {y : (Int32 × hq_S)} (e14 : ∀ (a1 : Int32) (a2 : Int32) (a3 : Int32) (a4 : Int32) (a5 : Int32) (a6 : Int32) (a7 : Int32) (s : hq_S), q14 a1 a2 a3 a4 a5 a6 a7 s = some y → hq_fx s y.2) (h : f_X7_solveAround_L14_B n q14 a1 a2 a3 a4 a5 a6 a7 s = some y) : hq_fx s y.2 := by
  unfold f_X7_solveAround_L14_B at h
  have t := hq_fx_rf s
  by_cases c1 : a7 < 0
  · rw [if_pos c1] at h
    have hr : mm_rfit (mm_ret mc_X7_solveAround) a5 = true := hq_ifT h
    rw [if_pos hr] at h
    have h := Option.some.inj h
    subst h
    exact t
  · rw [if_neg c1] at h
    obtain ⟨x2, hx2, h⟩ := hq_bind h
    obtain ⟨z3, hz3, h⟩ := hq_bind h
    have t : hq_fx s z3.2 := by
      clear h
      have h := hz3
      by_cases c4 : x2 = (-1 : Int32)
      · rw [if_pos c4] at h
        obtain ⟨y5, hy5, h⟩ := hq_bind h
        have t := hq_fx_tr t (f_J6_bitCount_0f7a4_fr hy5)
        by_cases c6 : a3 < y5.1
        · rw [if_pos c6] at h
          cases h
          exact t
        · rw [if_neg c6] at h
          obtain ⟨s7, hs7, h⟩ := hq_bind h
          have t := hq_fx_tr t (hq_fx_st hs7 (by first | decide | omega))
          cases h
          exact t
      · rw [if_neg c4] at h
        cases h
        exact t
    obtain ⟨z8, hz8, h⟩ := hq_bind h
    exact hq_fx_tr t (e14 a1 a2 a3 a4 z3.1 a6 z8 z3.2 h)
theorem f_X7_solveAround_L14_fr {n m : Nat} {a1 : Int32} {a2 : Int32} {a3 : Int32} {a4 : Int32} {a5 : Int32} {a6 : Int32} {a7 : Int32} {s : hq_S} {y : (Int32 × hq_S)} (h : f_X7_solveAround_L14 n m a1 a2 a3 a4 a5 a6 a7 s = some y) : hq_fx s y.2 := by
  induction m generalizing a1 a2 a3 a4 a5 a6 a7 s with
  | zero => cases h
  | succ m ih => exact f_X7_solveAround_L14_B_fr (n := n) (a1 := a1) (a2 := a2) (a3 := a3) (a4 := a4) (a5 := a5) (a6 := a6) (a7 := a7) (q14 := f_X7_solveAround_L14 n m) (fun a1 a2 a3 a4 a5 a6 a7 s h => ih h) h
theorem f_X7_solveAround_fr {n : Nat} {a1 : Int32} {a2 : Int32} {a3 : Int32} {a4 : Int32} {s : hq_S} {y : (Int32 × hq_S)} (h : f_X7_solveAround n a1 a2 a3 a4 s = some y) : hq_fx s y.2 := by
  unfold f_X7_solveAround at h
  have t := hq_fx_rf s
  exact hq_fx_tr t (f_X7_solveAround_L14_fr h)
