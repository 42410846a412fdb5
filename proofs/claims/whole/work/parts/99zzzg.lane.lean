/-! THE READER: lanes -/
theorem if4 {α : Type} {P Q R S : Prop} [Decidable P] [Decidable Q] [Decidable R] [Decidable S] {A B : α} : (if P then A else if Q then (if R then (if S then B else A) else A) else A) = if ¬ P ∧ Q ∧ R ∧ S then B else A := by
  by_cases h1 : P <;> by_cases h2 : Q <;> by_cases h3 : R <;> by_cases h4 : S <;> simp [h1, h2, h3, h4]
theorem if2 {P Q : Prop} [Decidable P] [Decidable Q] : (if P then (if Q then some (1 : Int32) else some (0 : Int32)) else some (0 : Int32)) = some (if P ∧ Q then 1 else 0) := by
  by_cases h1 : P <;> by_cases h2 : Q <;> simp [h1, h2]
theorem if3 {P Q R : Prop} [Decidable P] [Decidable Q] [Decidable R] : (if P then (if Q then (if R then some (1 : Int32) else some (0 : Int32)) else some (0 : Int32)) else some (0 : Int32)) = some (if P ∧ Q ∧ R then 1 else 0) := by
  by_cases h1 : P <;> by_cases h2 : Q <;> by_cases h3 : R <;> simp [h1, h2, h3]
/-- lane i is the one told now -/
def lh (a f g : Int32) (F G O : Nat → Int32) (i : Nat) : Prop := O i = a ∧ ((F i = f ∧ G i = g) ∨ (a = 0 ∧ F i = g ∧ G i = f))
section
variable {N : Nat} {sx : hq_S} {a f g : Int32} {F G O : Nat → Int32}
theorem lx_has {v nl : Nat} (hnl : nl ≤ 20) (c : hq_gi sx v 3 = Int32.ofNat nl) (hF : ∀ i, i < nl → hq_gi sx (v + 3) i = F i) (hG : ∀ i, i < nl → hq_gi sx (v + 4) i = G i) (hO : ∀ i, i < nl → (hq_gi sx v 6 >>> Int32.ofNat i) &&& 1 = O i ∧ (O i = 0 ∨ O i = 1)) :
    ∀ (r j m : Nat), j + r = nl → r < m → (f_X10_hasLane_L3 N m v f g a (Int32.ofNat j) sx = some (1, sx) ∧ ∃ i, j ≤ i ∧ i < nl ∧ lh a f g F G O i) ∨ (f_X10_hasLane_L3 N m v f g a (Int32.ofNat j) sx = some (0, sx) ∧ ∀ i, j ≤ i → i < nl → ¬ lh a f g F G O i) := by
  intro r
  induction r with
  | zero =>
    intro j m hj hm
    obtain ⟨m, rfl⟩ : ∃ k, m = k + 1 := ⟨m - 1, by omega⟩
    refine Or.inr ⟨?_, fun i h1 h2 => by omega⟩
    rw [f_X10_hasLane_L3_s]
    unfold f_X10_hasLane_L3_B
    rw [c, ie (nb_ltp (by omega) (by omega)), if_neg (by omega)]
  | succ r ih =>
    intro j m hj hm
    obtain ⟨m, rfl⟩ : ∃ k, m = k + 1 := ⟨m - 1, by omega⟩
    obtain ⟨o1, o2⟩ := hO j (by omega)
    have ow : f_X10_isOneWay N v (Int32.ofNat j) sx = some (O j, sx) := by
      unfold f_X10_isOneWay
      rw [nn_m31 (by omega), o1]
      rcases o2 with e | e
      · rw [e, if_neg (by decide)]
      · rw [e, if_pos rfl]
    have J : ∀ z, f_X10_hasLane_J58 N (f_X10_hasLane_L3 N m) v f g a (Int32.ofNat j) z sx = if ¬ z = 0 ∧ a = 0 ∧ F j = g ∧ G j = f then some (1, sx) else f_X10_hasLane_L3 N m v f g a (Int32.ofNat (j + 1)) sx := by
      intro z
      unfold f_X10_hasLane_J58 f_X10_hasLane_J91
      rw [nn_ld (by omega) (by omega), nn_ld (by omega) (by omega), hF j (by omega), hG j (by omega), nn_succ]
      simp only [ob]
      exact if4
    have step : f_X10_hasLane_L3 N (m + 1) v f g a (Int32.ofNat j) sx = if a = O j ∧ ((F j = f ∧ G j = g) ∨ (a = 0 ∧ F j = g ∧ G j = f)) then some (1, sx) else f_X10_hasLane_L3 N m v f g a (Int32.ofNat (j + 1)) sx := by
      rw [f_X10_hasLane_L3_s]
      unfold f_X10_hasLane_L3_B
      rw [c, ie (nb_ltp (by omega) (by omega)), if_pos (by omega), ow]
      simp only [ob]
      by_cases e : a = O j
      · rw [if_pos e]
        simp only [ob]
        rw [if_neg (by decide), nn_ld (by omega) (by omega), hF j (by omega)]
        simp only [ob]
        rw [nn_ld (by omega) (by omega), hG j (by omega), J]
        simp only [ob]
        by_cases q1 : F j = f
        · rw [if_pos q1]
          by_cases q2 : G j = g
          · rw [if_pos q2, if_pos ⟨e, Or.inl ⟨q1, q2⟩⟩]
          · rw [if_neg q2]
            by_cases q3 : a = 0 ∧ F j = g ∧ G j = f
            · rw [if_pos ⟨by decide, q3⟩, if_pos ⟨e, Or.inr q3⟩]
            · rw [if_neg (fun q => q3 q.2), if_neg (fun q => q.2.elim (fun w => q2 w.2) q3)]
        · rw [if_neg q1]
          by_cases q3 : a = 0 ∧ F j = g ∧ G j = f
          · rw [if_pos ⟨by decide, q3⟩, if_pos ⟨e, Or.inr q3⟩]
          · rw [if_neg (fun q => q3 q.2), if_neg (fun q => q.2.elim (fun w => q1 w.1) q3)]
      · rw [if_neg e]
        simp only [ob]
        rw [if_pos trivial, J, if_neg (fun q => q.1 rfl), if_neg (fun q => e q.1)]
    by_cases q : a = O j ∧ ((F j = f ∧ G j = g) ∨ (a = 0 ∧ F j = g ∧ G j = f))
    · exact Or.inl ⟨by rw [step, if_pos q], j, Nat.le_refl _, by omega, q.1.symm, q.2⟩
    · rw [step, if_neg q]
      rcases ih (j + 1) m (by omega) (by omega) with ⟨h1, i, h2, h3, h4⟩ | ⟨h1, h2⟩
      · exact Or.inl ⟨h1, i, by omega, h3, h4⟩
      · refine Or.inr ⟨h1, fun i i1 i2 i3 => ?_⟩
        by_cases w : i = j
        · rw [w] at i3; exact q ⟨i3.1.symm, i3.2⟩
        · exact h2 i (by omega) i2 i3
end
section
variable {N nl : Nat} {a f g : Int32} {F G O : Nat → Int32}
/-- the reference behind its loop -/
def ly_end (N : Nat) (s : hq_S) : Option hq_S := (f_X12_goOn N s).bind fun s14 => (f_X12_fresher N (1 : Int32) s14).bind fun y15 => (f_X12_reads N (1 : Int32) (y15.1 + (1 : Int32)) y15.2).bind fun s16 => some s16
theorem ly_end_f {s : hq_S} (h : ¬ hq_gi s 174 28 = 0) : ly_end N s = some (hq_si s 176 8 (hq_gi s 176 8 + 1)) := by
  unfold ly_end
  rw [goOn_f h]
  simp only [ob]
  rw [fresher_v (a := 1) (j := 1) rfl (by omega)]
  simp only [ob]
  rw [reads_v (a := 1) (j := 1) rfl (by omega)]
  rfl
theorem ly_0 (hnl : nl ≤ 20) {m : Nat} {s : hq_S} : f_X12_laneLine_L66 N (m + 1) a (Int32.ofNat (20 + nl)) (Int32.ofNat (20 + nl)) s = ly_end N s := by
  rw [f_X12_laneLine_L66_s]
  unfold f_X12_laneLine_L66_B
  rw [ie (nb_ltp (by omega) (by omega)), if_neg (by omega)]
  rfl
theorem ly_s (hnl : nl < 20) {j m : Nat} (hj : j < nl) {s : hq_S} : f_X12_laneLine_L66 N (m + 1) a (Int32.ofNat (20 + nl)) (Int32.ofNat (20 + j)) s = (if hq_gi s 174 28 = 0 then if hq_gi s 182 (20 + j) = a then if (hq_gi s 180 (20 + j) = hq_gi s 180 (20 + nl) ∧ hq_gi s 181 (20 + j) = hq_gi s 181 (20 + nl)) ∨ (a = 0 ∧ hq_gi s 180 (20 + j) = hq_gi s 181 (20 + nl) ∧ hq_gi s 181 (20 + j) = hq_gi s 180 (20 + nl)) then f_X12_wrong N 3 s else some s else some s else some s).bind fun z => f_X12_laneLine_L66 N m a (Int32.ofNat (20 + nl)) (Int32.ofNat (20 + (j + 1))) z := by
  rw [f_X12_laneLine_L66_s]
  unfold f_X12_laneLine_L66_B
  have l1 : ∀ k, hq_ld s k 40 (Int32.ofNat (20 + j)) = some (hq_gi s k (20 + j)) := fun k => nn_ld (by omega) (by omega)
  have l2 : ∀ k, hq_ld s k 40 (Int32.ofNat (20 + nl)) = some (hq_gi s k (20 + nl)) := fun k => nn_ld (by omega) (by omega)
  rw [ie (nb_ltp (by omega) (by omega)), if_pos (by omega)]
  simp only [l1, l2, ob]
  rw [if2, if3]
  simp only [ob]
  rw [nn_succ, Nat.add_assoc]
  refine congrArg (fun x => Option.bind x _) ?_
  by_cases q0 : hq_gi s 174 28 = 0
  · rw [if_pos q0, if_pos q0]
    by_cases q1 : hq_gi s 182 (20 + j) = a
    · rw [if_pos q1, if_pos q1]
      have w : ((f_X12_wrong N 3 s).bind fun s39 => some s39) = f_X12_wrong N 3 s := by cases f_X12_wrong N 3 s <;> rfl
      rw [w]
      by_cases q2 : hq_gi s 180 (20 + j) = hq_gi s 180 (20 + nl) ∧ hq_gi s 181 (20 + j) = hq_gi s 181 (20 + nl)
      · rw [if_pos q2, if_neg (by decide), if_pos (Or.inl q2)]
      · rw [if_neg q2, if_pos rfl]
        by_cases q3 : a = 0 ∧ hq_gi s 180 (20 + j) = hq_gi s 181 (20 + nl) ∧ hq_gi s 181 (20 + j) = hq_gi s 180 (20 + nl)
        · rw [if_pos q3, if_neg (by decide), if_pos (Or.inr q3)]
        · rw [if_neg q3, if_pos rfl, if_neg (fun q => q.elim q2 q3)]
    · rw [if_neg q1, if_neg q1]
  · rw [if_neg q0, if_neg q0]
theorem ly_A (hnl : nl < 20) : ∀ (r j m : Nat) (s : hq_S), j + r = nl → r < m → ¬ hq_gi s 174 28 = 0 → f_X12_laneLine_L66 N m a (Int32.ofNat (20 + nl)) (Int32.ofNat (20 + j)) s = some (hq_si s 176 8 (hq_gi s 176 8 + 1)) := by
  intro r
  induction r with
  | zero =>
    intro j m s hj hm h
    obtain ⟨m, rfl⟩ : ∃ k, m = k + 1 := ⟨m - 1, by omega⟩
    rw [show j = nl by omega, ly_0 (by omega), ly_end_f h]
  | succ r ih =>
    intro j m s hj hm h
    obtain ⟨m, rfl⟩ : ∃ k, m = k + 1 := ⟨m - 1, by omega⟩
    rw [ly_s hnl (by omega), if_neg h]
    exact ih (j + 1) m s (by omega) (by omega) h
theorem ly_B (hnl : nl < 20) : ∀ (r j m : Nat) (s : hq_S), j + r = nl → r < m → hq_gi s 174 28 = 0 → hq_gi s 180 (20 + nl) = f → hq_gi s 181 (20 + nl) = g → ((∀ i, j ≤ i → i < nl → ¬ lh a f g (fun i => hq_gi s 180 (20 + i)) (fun i => hq_gi s 181 (20 + i)) (fun i => hq_gi s 182 (20 + i)) i) → f_X12_laneLine_L66 N m a (Int32.ofNat (20 + nl)) (Int32.ofNat (20 + j)) s = ly_end N s) ∧ ((∃ i, j ≤ i ∧ i < nl ∧ lh a f g (fun i => hq_gi s 180 (20 + i)) (fun i => hq_gi s 181 (20 + i)) (fun i => hq_gi s 182 (20 + i)) i) → f_X12_laneLine_L66 N m a (Int32.ofNat (20 + nl)) (Int32.ofNat (20 + j)) s = some (hq_si (hq_si (hq_si s 174 28 3) 174 29 (hq_gi s 174 25)) 176 8 (hq_gi (hq_si (hq_si s 174 28 3) 174 29 (hq_gi s 174 25)) 176 8 + 1))) := by
  intro r
  induction r with
  | zero =>
    intro j m s hj hm h ef eg
    obtain ⟨m, rfl⟩ : ∃ k, m = k + 1 := ⟨m - 1, by omega⟩
    refine ⟨fun _ => by rw [show j = nl by omega, ly_0 (by omega)], fun ⟨i, h1, h2, _⟩ => by omega⟩
  | succ r ih =>
    intro j m s hj hm h ef eg
    obtain ⟨m, rfl⟩ : ∃ k, m = k + 1 := ⟨m - 1, by omega⟩
    rw [ly_s hnl (by omega), if_pos h, ef, eg]
    by_cases q : lh a f g (fun i => hq_gi s 180 (20 + i)) (fun i => hq_gi s 181 (20 + i)) (fun i => hq_gi s 182 (20 + i)) j
    · refine ⟨fun n => absurd q (n j (Nat.le_refl _) (by omega)), fun _ => ?_⟩
      rw [if_pos q.1, if_pos q.2, fail_m h]
      simp only [ob]
      exact ly_A hnl r (j + 1) m _ (by omega) (by omega) (fail_n (by decide))
    · have nx : (if hq_gi s 182 (20 + j) = a then if (hq_gi s 180 (20 + j) = f ∧ hq_gi s 181 (20 + j) = g) ∨ (a = 0 ∧ hq_gi s 180 (20 + j) = g ∧ hq_gi s 181 (20 + j) = f) then f_X12_wrong N 3 s else some s else some s) = some s := by
        by_cases q1 : hq_gi s 182 (20 + j) = a
        · rw [if_pos q1, if_neg (fun w => q ⟨q1, w⟩)]
        · rw [if_neg q1]
      rw [nx]
      simp only [ob]
      obtain ⟨h1, h2⟩ := ih (j + 1) m s (by omega) (by omega) h ef eg
      refine ⟨fun n => h1 fun i i1 i2 => n i (by omega) i2, fun ⟨i, i1, i2, i3⟩ => h2 ⟨i, ?_, i2, i3⟩⟩
      by_cases w : i = j
      · rw [w] at i3; exact absurd i3 q
      · omega
end
