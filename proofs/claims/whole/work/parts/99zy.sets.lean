/-! SETS OF CORNERS: within, one after the other, counted -/
def nb_su (a b : Nat) : Prop := ∀ i, a.testBit i = true → b.testBit i = true
theorem nb_df0 {a b : Nat} : nb_df a b = 0 ↔ nb_su a b := by
  constructor
  · intro h i hi
    cases q : b.testBit i with
    | true => rfl
    | false =>
      have h1 := nb_df_t a b i
      rw [h, hi, q, Nat.zero_testBit] at h1
      cases h1
  · intro h
    apply nb_ext
    intro i
    rw [nb_df_t, Nat.zero_testBit]
    cases q : a.testBit i with
    | false => rfl
    | true => rw [h i q]; rfl
theorem nb_su_le {a b : Nat} (h : nb_su a b) : a ≤ b := by
  have e : a ||| b = b := nb_ext fun i => by
    rw [Nat.testBit_or]
    cases q : a.testBit i with
    | false => rfl
    | true => rw [h i q]; rfl
  rw [← e]
  exact Nat.left_le_or
theorem nb_su_half {a b : Nat} (h : nb_su a b) : nb_su (a / 2) (b / 2) := fun i hi => by
  rw [← Nat.testBit_succ] at hi ⊢
  exact h (i + 1) hi
theorem nb_t0 (a : Nat) : a.testBit 0 = decide (a % 2 = 1) := Nat.testBit_zero a
theorem nb_su_odd {a b : Nat} (h : nb_su a b) : a % 2 ≤ b % 2 := by
  by_cases q : a % 2 = 1
  · have h1 := h 0 (by rw [nb_t0]; exact decide_eq_true q)
    rw [nb_t0] at h1
    have := of_decide_eq_true h1
    omega
  · omega
/-- the next smaller set within o -/
theorem nb_next : ∀ (l L o : Nat), nb_su L o → nb_su l o → L < l → L ≤ (l - 1) &&& o := by
  intro l
  induction l using Nat.strongRecOn with
  | ind l ih =>
    intro L o hL hl lt
    have h1 : ((l - 1) &&& o) / 2 ^ 1 = (l - 1) / 2 ^ 1 &&& o / 2 ^ 1 := Nat.and_div_two_pow
    have h2 : ((l - 1) &&& o) % 2 ^ 1 = (l - 1) % 2 ^ 1 &&& o % 2 ^ 1 := Nat.and_mod_two_pow
    rw [Nat.pow_one] at h1 h2
    generalize (l - 1) &&& o = x at h1 h2 ⊢
    by_cases q : l % 2 = 1
    · have e1 : (l - 1) / 2 = l / 2 := by omega
      have e2 : l / 2 &&& o / 2 = l / 2 := nb_ext fun i => by
        rw [Nat.testBit_and]
        cases z : (l / 2).testBit i with
        | false => rfl
        | true => rw [nb_su_half hl i z]; rfl
      rw [e1, e2] at h1
      omega
    · have e1 : (l - 1) / 2 = l / 2 - 1 := by omega
      have e2 : (l - 1) % 2 = 1 := by omega
      have h3 := ih (l / 2) (by omega) (L / 2) (o / 2) (nb_su_half hL) (nb_su_half hl) (by omega)
      have h4 := nb_su_odd hL
      rw [e1] at h1
      rw [e2] at h2
      have h5 : 1 &&& o % 2 = o % 2 := by
        rcases Nat.mod_two_eq_zero_or_one o with z | z <;> rw [z] <;> rfl
      rw [h5] at h2
      generalize l / 2 - 1 &&& o / 2 = y at h1 h3
      omega
/-- how many of the first m -/
def cn (P : Nat → Bool) : Nat → Nat
  | 0 => 0
  | m + 1 => cn P m + (if P m = true then 1 else 0)
theorem cn_le (P : Nat → Bool) : ∀ m, cn P m ≤ m
  | 0 => Nat.le_refl _
  | m + 1 => by
    have := cn_le P m
    rw [cn]
    split <;> omega
theorem cn_mono {P Q : Nat → Bool} : ∀ m, (∀ i, i < m → P i = true → Q i = true) → cn P m ≤ cn Q m
  | 0, _ => Nat.le_refl _
  | m + 1, h => by
    have ih := cn_mono m (fun i hi => h i (by omega))
    have hm := h m (by omega)
    rw [cn, cn]
    by_cases q : P m = true
    · rw [if_pos q, if_pos (hm q)]; omega
    · rw [if_neg q]; omega
theorem cn_lt {P Q : Nat → Bool} : ∀ m, (∀ i, i < m → P i = true → Q i = true) → (∃ i, i < m ∧ P i = false ∧ Q i = true) → cn P m < cn Q m
  | 0, _, h => by obtain ⟨i, hi, -⟩ := h; omega
  | m + 1, h, ⟨i, hi, h1, h2⟩ => by
    have hm := h m (by omega)
    rw [cn, cn]
    by_cases e : i = m
    · have ih := cn_mono m (fun i hi => h i (by omega))
      rw [e] at h1 h2
      rw [h1, h2, if_pos rfl, if_neg (by decide)]
      omega
    · have ih := cn_lt m (fun i hi => h i (by omega)) ⟨i, by omega, h1, h2⟩
      by_cases q : P m = true
      · rw [if_pos q, if_pos (hm q)]; omega
      · rw [if_neg q]; omega
/-! THE TOWN SWEPT: by k nights -/
def sw (mv : Nat → Nat) (n : Nat) : Nat → Nat → Bool
  | 0, S => decide (S = 0)
  | k + 1, S => sw mv n k S || (List.range (S + 1)).any fun R => decide (nb_df R S = 0) && (decide (nb_pop (nb_df S R) 20 ≤ n) && sw mv n k (mv R))
section
variable {mv : Nat → Nat} {n : Nat}
theorem sw_s {k S : Nat} : sw mv n (k + 1) S = true ↔ (sw mv n k S = true ∨ ∃ R, nb_su R S ∧ nb_pop (nb_df S R) 20 ≤ n ∧ sw mv n k (mv R) = true) := by
  rw [sw, Bool.or_eq_true, List.any_eq_true]
  constructor
  · rintro (h | ⟨R, -, h⟩)
    · exact Or.inl h
    · rw [Bool.and_eq_true, Bool.and_eq_true] at h
      exact Or.inr ⟨R, nb_df0.mp (of_decide_eq_true h.1), of_decide_eq_true h.2.1, h.2.2⟩
  · rintro (h | ⟨R, h1, h2, h3⟩)
    · exact Or.inl h
    · refine Or.inr ⟨R, List.mem_range.mpr (by have := nb_su_le h1; omega), ?_⟩
      rw [Bool.and_eq_true, Bool.and_eq_true]
      exact ⟨decide_eq_true (nb_df0.mpr h1), decide_eq_true h2, h3⟩
theorem sw_up {k S : Nat} (h : sw mv n k S = true) : sw mv n (k + 1) S = true := sw_s.mpr (Or.inl h)
theorem sw_le {k j S : Nat} (hk : k ≤ j) (h : sw mv n k S = true) : sw mv n j S = true := by
  induction j with
  | zero => rw [show (0 : Nat) = k by omega]; exact h
  | succ j ih =>
    by_cases e : k = j + 1
    · rw [← e]; exact h
    · exact sw_up (ih (by omega))
theorem sw_nf {k S : Nat} (h : ¬ sw mv n k S = true) : sw mv n k S = false := by cases q : sw mv n k S with | true => exact absurd q h | false => rfl
/-- nothing new: nothing new ever -/
theorem sw_fix {k M : Nat} (hm : ∀ S, S < M → mv S < M) (h : ∀ S, S < M → sw mv n (k + 1) S = true → sw mv n k S = true) : ∀ j S, S < M → sw mv n j S = true → sw mv n k S = true := by
  intro j
  induction j with
  | zero => intro S _ h; exact sw_le (by omega) h
  | succ j ih =>
    intro S hS hj
    rcases sw_s.mp hj with h1 | ⟨R, h1, h2, h3⟩
    · exact ih S hS h1
    · have hR : R < M := by have := nb_su_le h1; omega
      exact h S hS (sw_s.mpr (Or.inr ⟨R, h1, h2, ih (mv R) (hm R hR) h3⟩))
/-- just by k nights -/
def se (mv : Nat → Nat) (n k S : Nat) : Prop := sw mv n k S = true ∧ ∀ i, i < k → sw mv n i S = false
theorem se_ex {k S : Nat} (h : sw mv n k S = true) : ∃ j, j ≤ k ∧ se mv n j S := by
  induction k with
  | zero => exact ⟨0, Nat.le_refl _, h, fun i hi => by omega⟩
  | succ k ih =>
    by_cases q : sw mv n k S = true
    · obtain ⟨j, h1, h2⟩ := ih q
      exact ⟨j, by omega, h2⟩
    · exact ⟨k + 1, Nat.le_refl _, h, fun i hi => sw_nf fun z => q (sw_le (by omega) z)⟩
theorem se_eq {i j S : Nat} (h1 : se mv n i S) (h2 : se mv n j S) : i = j := by
  by_cases a : i < j
  · have := h2.2 i a
    rw [h1.1] at this
    cases this
  · by_cases b : j < i
    · have := h1.2 j b
      rw [h2.1] at this
      cases this
    · omega
/-- what is held of a set by night k -/
def sv (mv : Nat → Nat) (n k S : Nat) (x : Int32) : Prop := (∃ j, j ≤ k ∧ se mv n j S ∧ x = Int32.ofNat j) ∨ (x = -1 ∧ sw mv n k S = false)
theorem sv_m1 {k S : Nat} (hk : k < 2000) {x : Int32} (h : sv mv n k S x) : x = -1 ↔ sw mv n k S = false := by
  rcases h with ⟨j, h1, h2, h3⟩ | ⟨h1, h2⟩
  · constructor
    · intro e
      rw [h3] at e
      exact absurd (show Int32.ofNat j < 0 by rw [e]; decide) (nn_nlt0 (by omega))
    · intro e
      rw [sw_le h1 h2.1] at e
      cases e
  · exact ⟨fun _ => h2, fun _ => h1⟩
theorem sv_eq {k S i : Nat} (hk : k < 2000) (hi : i ≤ k) {x : Int32} (h : sv mv n k S x) : x = Int32.ofNat i ↔ se mv n i S := by
  rcases h with ⟨j, h1, h2, h3⟩ | ⟨h1, h2⟩
  · rw [h3, nn_inj (by omega) (by omega)]
    exact ⟨fun e => e ▸ h2, fun e => se_eq h2 e⟩
  · constructor
    · intro e
      rw [h1] at e
      exact absurd (show Int32.ofNat i < 0 by rw [← e]; decide) (nn_nlt0 (by omega))
    · intro e
      rw [sw_le hi e.1] at h2
      cases h2
theorem sv_lt {k S : Nat} (hk : k < 2000) {x : Int32} (h : sv mv n k S x) : x < 0 ↔ sw mv n k S = false := by
  rcases h with ⟨j, h1, h2, h3⟩ | ⟨h1, h2⟩
  · constructor
    · intro e
      rw [h3] at e
      exact absurd e (nn_nlt0 (by omega))
    · intro e
      rw [sw_le h1 h2.1] at e
      cases e
  · exact ⟨fun _ => h2, fun _ => by rw [h1]; decide⟩
end
/-! where one goes unseen -/
def mv_n (nx : Nat → Nat) (c : Nat) : Nat := if nx c = 0 then 2 ^ c else nx c
def mvs (nx : Nat → Nat) (S : Nat) : Nat → Nat
  | 0 => 0
  | c + 1 => if S.testBit c = true then mvs nx S c ||| mv_n nx c else mvs nx S c
section
variable {nx : Nat → Nat} {nc : Nat}
theorem mvs_cg {S S' : Nat} : ∀ c, (∀ i, i < c → S.testBit i = S'.testBit i) → mvs nx S c = mvs nx S' c
  | 0, _ => rfl
  | c + 1, h => by rw [mvs, mvs, h c (by omega), mvs_cg c (fun i hi => h i (by omega))]
theorem mv_n_0 {c : Nat} : ¬ mv_n nx c = 0 := by
  unfold mv_n
  by_cases q : nx c = 0
  · rw [if_pos q]
    have := Nat.two_pow_pos c
    omega
  · rw [if_neg q]; exact q
theorem mv_n_lt (hx : ∀ c, nx c < 2 ^ nc) {c : Nat} (hc : c < nc) : mv_n nx c < 2 ^ nc := by
  unfold mv_n
  by_cases q : nx c = 0
  · rw [if_pos q]; exact nb_2lt hc
  · rw [if_neg q]; exact hx c
theorem mvs_lt (hx : ∀ c, nx c < 2 ^ nc) {S : Nat} : ∀ c, c ≤ nc → mvs nx S c < 2 ^ nc
  | 0, _ => Nat.two_pow_pos nc
  | c + 1, h => by
    rw [mvs]
    split
    · exact nb_lt_or (mvs_lt hx c (by omega)) (mv_n_lt hx (by omega))
    · exact mvs_lt hx c (by omega)
theorem mvs_0 {S : Nat} : ∀ c, mvs nx S c = 0 ↔ ∀ i, i < c → S.testBit i = false
  | 0 => ⟨fun _ i hi => by omega, fun _ => rfl⟩
  | c + 1 => by
    rw [mvs]
    have ih := mvs_0 (S := S) c
    constructor
    · intro h i hi
      by_cases q : S.testBit c = true
      · rw [if_pos q] at h
        exact absurd (Nat.or_eq_zero_iff.mp h).2 mv_n_0
      · rw [if_neg q] at h
        by_cases e : i = c
        · rw [e]; cases z : S.testBit c with | true => exact absurd z q | false => rfl
        · exact ih.mp h i (by omega)
    · intro h
      rw [if_neg (by rw [h c (by omega)]; decide)]
      exact ih.mpr fun i hi => h i (by omega)
theorem mvs_00 {S : Nat} (hS : S < 2 ^ nc) : mvs nx S nc = 0 ↔ S = 0 := by
  rw [mvs_0]
  constructor
  · intro h
    apply nb_ext
    intro i
    rw [Nat.zero_testBit]
    cases q : S.testBit i with
    | false => rfl
    | true =>
      have := h i (nb_tlt hS q)
      rw [q] at this
      cases this
  · intro h i _
    rw [h, Nat.zero_testBit]
end
