/-! THE READER: a law's levels, pending signs -/
def lv (x : Nat) : Nat := if x = 19 then 2 else if x = 20 then 1 else if x = 21 then 3 else if x = 42 then 6 else if x = 43 then 5 else if x = 45 then 5 else if x = 47 then 6 else if x = 60 then 4 else if x = 61 then 4 else if x = 62 then 4 else if x = 256 then 4 else if x = 257 then 4 else if x = 258 then 4 else 0
def lvI (n : Nat) : Int32 := if n = 0 then -1 else Int32.ofNat (n - 1)
theorem lvI_lt : ∀ m, m < 7 → ∀ n, n < 7 → ((lvI m < lvI n) = (m < n)) := by
  have h : ∀ m, m < 7 → ∀ n, n < 7 → (lvI m < lvI n ↔ m < n) := by decide
  exact fun m hm n hn => propext (h m hm n hn)
theorem lvI_eq : ∀ m, m < 7 → ∀ n, n < 7 → ((lvI m = lvI n) = (m = n)) := by
  have h : ∀ m, m < 7 → ∀ n, n < 7 → (lvI m = lvI n ↔ m = n) := by decide
  exact fun m hm n hn => propext (h m hm n hn)
theorem lv_7 (x : Nat) : lv x < 7 := by
  unfold lv
  repeat' split
  all_goals omega
theorem ifs {α : Type} {P : Prop} [Decidable P] {a b c d : α} (h1 : P → a = c) (h2 : ¬ P → b = d) : (if P then a else b) = if P then c else d := by
  by_cases h : P
  · rw [if_pos h, if_pos h, h1 h]
  · rw [if_neg h, if_neg h, h2 h]
theorem some_if {α β : Type} {P : Prop} [Decidable P] {a b : α} {s : β} {f : α → Int32} : some (f (if P then a else b), s) = if P then some (f a, s) else some (f b, s) := by
  by_cases h : P
  · rw [if_pos h, if_pos h]
  · rw [if_neg h, if_neg h]
theorem levelOf_v {N x : Nat} {s : hq_S} (hx : x < 1000) : f_X6_levelOf N (Int32.ofNat x) s = some (lvI (lv x), s) := by
  have e : ∀ c, c < 1000 → (Int32.ofNat x = Int32.ofNat c) = (x = c) := fun c hc => nb_eq (by omega) (by omega)
  unfold f_X6_levelOf lv
  simp only [some_if]
  rw [ie (show (Int32.ofNat x = (19 : Int32)) = (x = 19) from e 19 (by omega)), ie (show (Int32.ofNat x = (20 : Int32)) = (x = 20) from e 20 (by omega)), ie (show (Int32.ofNat x = (21 : Int32)) = (x = 21) from e 21 (by omega)), ie (show (Int32.ofNat x = (42 : Int32)) = (x = 42) from e 42 (by omega)), ie (show (Int32.ofNat x = (43 : Int32)) = (x = 43) from e 43 (by omega)), ie (show (Int32.ofNat x = (45 : Int32)) = (x = 45) from e 45 (by omega)), ie (show (Int32.ofNat x = (47 : Int32)) = (x = 47) from e 47 (by omega)), ie (show (Int32.ofNat x = (60 : Int32)) = (x = 60) from e 60 (by omega)), ie (show (Int32.ofNat x = (61 : Int32)) = (x = 61) from e 61 (by omega)), ie (show (Int32.ofNat x = (62 : Int32)) = (x = 62) from e 62 (by omega)), ie (show (Int32.ofNat x = (256 : Int32)) = (x = 256) from e 256 (by omega)), ie (show (Int32.ofNat x = (257 : Int32)) = (x = 257) from e 257 (by omega)), ie (show (Int32.ofNat x = (258 : Int32)) = (x = 258) from e 258 (by omega))]
  rfl
/-- pending signs, the last one first -/
def stk (s : hq_S) : List Nat → Prop
  | [] => True
  | x :: S => (hq_gi s 75 S.length = Int32.ofNat x ∧ x < 1000) ∧ stk s S
theorem stk_k {s s' : hq_S} : ∀ (S : List Nat) (n : Nat), S.length ≤ n → (∀ i, i < n → hq_gi s' 75 i = hq_gi s 75 i) → stk s S → stk s' S := by
  intro S
  induction S with
  | nil => intro n _ _ _; trivial
  | cons x S ih =>
    intro n hn e h
    have hl : S.length < n := by simp at hn; omega
    exact ⟨⟨(e _ hl).trans h.1.1, h.1.2⟩, ih n (by omega) e h.2⟩
theorem stk_app {s : hq_S} {P : List Nat} : ∀ Q : List Nat, stk s (Q ++ P) → stk s P := by
  intro Q
  induction Q with
  | nil => exact fun h => h
  | cons x Q ih => exact fun h => ih h.2
/-- the signs among them -/
def sg : List Nat → Nat
  | [] => 0
  | x :: S => (if x = 40 then 0 else 1) + sg S
def br : List Nat → Nat
  | [] => 0
  | x :: S => (if x = 40 then 1 else 0) + br S
theorem sg_br : ∀ S : List Nat, sg S + br S = S.length := by
  intro S
  induction S with
  | nil => rfl
  | cons x S ih =>
    unfold sg br
    by_cases h : x = 40
    · rw [if_pos h, if_pos h, List.length_cons]; omega
    · rw [if_neg h, if_neg h, List.length_cons]; omega
/-- all signs bind at least so tightly -/
def ge (l : Nat) (Q : List Nat) : Prop := ∀ x ∈ Q, l ≤ lv x
theorem ge_mono {l l' : Nat} {Q : List Nat} (h : ge l Q) (g : l' ≤ l) : ge l' Q := fun x hx => Nat.le_trans g (h x hx)
theorem ge_nil {l : Nat} : ge l [] := fun x hx => by cases hx
theorem ge_app {l : Nat} {Q R : List Nat} (h : ge l Q) (g : ge l R) : ge l (Q ++ R) := fun x hx => (List.mem_append.mp hx).elim (h x) (g x)
theorem ge_one {l x : Nat} (h : l ≤ lv x) : ge l [x] := fun y hy => by rw [List.mem_singleton.mp hy]; exact h
/-- the last sign binds less -/
def top (l : Nat) : List Nat → Prop
  | [] => True
  | x :: _ => lv x < l
theorem top_mono {l l' : Nat} {P : List Nat} (h : top l P) (g : l ≤ l') : top l' P := by
  cases P with
  | nil => trivial
  | cons x P => exact Nat.lt_of_lt_of_le h g
section
variable {N v : Nat}
theorem put_v {s : hq_S} {pc : Nat} {x : Int32} (e : hq_gi s (v + 9) 1 = Int32.ofNat pc) (h : pc < 64) : f_X4_put N (v + 9) x s = some (hq_si (hq_si s (v + 10) pc x) (v + 9) 1 (Int32.ofNat (pc + 1))) := by
  unfold f_X4_put
  rw [e, ie (show (Int32.ofNat pc < 64) = (pc < 64) from nb_ltp (b := 64) (by omega) (by omega)), if_pos h, nn_st (by omega) (by omega)]
  simp only [ob]
  rw [nn_n (by omega), e, nn_pi, nn_succ]
  rfl
theorem put_full {s : hq_S} {pc : Nat} {x : Int32} (e : hq_gi s (v + 9) 1 = Int32.ofNat pc) (h : ¬ pc < 64) (h' : pc < 1000) : f_X4_put N (v + 9) x s = some s := by
  unfold f_X4_put
  rw [e, ie (show (Int32.ofNat pc < 64) = (pc < 64) from nb_ltp (b := 64) (by omega) (by omega)), if_neg h]
theorem settle_v (hv : v = 2 ∨ v = 25) {l : Nat} {P : List Nat} (hl0 : 1 ≤ l) (hl : l < 7) (hP : top l P) : ∀ (Q : List Nat) (m pc : Nat) (s : hq_S), hq_gr s 48 1 = v → Q.length < m → Q.length + P.length ≤ 72 → pc + Q.length ≤ 64 → hq_gi s 48 3 = Int32.ofNat (Q.length + P.length) → stk s (Q ++ P) → ge l Q → hq_gi s (v + 9) 1 = Int32.ofNat pc →
    ∃ s', f_X6_settle_L0 N m (lvI l) s = some s' ∧ hq_gi s' 48 3 = Int32.ofNat P.length ∧ hq_gi s' (v + 9) 1 = Int32.ofNat (pc + Q.length) ∧ (∀ i, i < Q.length → hq_gi s' (v + 10) (pc + i) = Int32.ofNat (20000 + Q.getD i 0)) ∧ (∀ k i, ¬ (k = 48 ∧ i = 3) → ¬ (k = v + 9 ∧ i = 1) → ¬ (k = v + 10 ∧ pc ≤ i) → hq_gi s' k i = hq_gi s k i) ∧ s'.2 = s.2 := by
  intro Q
  induction Q with
  | nil =>
    intro m pc s gv hm h72 h64 e3 hs hg ep
    obtain ⟨m, rfl⟩ : ∃ k, m = k + 1 := ⟨m - 1, by simp at hm; omega⟩
    refine ⟨s, ?_, by simpa using e3, by simpa using ep, fun i hi => by simp at hi, fun _ _ _ _ _ => rfl, rfl⟩
    rw [f_X6_settle_L0_s]
    unfold f_X6_settle_L0_B
    simp only [List.length_nil, Nat.zero_add] at e3 h72
    rw [e3, ie (show ((0 : Int32) < Int32.ofNat P.length) = (0 < P.length) from nb_ltp (a := 0) (by omega) (by omega))]
    cases P with
    | nil => rw [if_neg (by simp)]
    | cons x P =>
      have hx : hq_gi s 75 P.length = Int32.ofNat x := hs.1.1
      have hx' : x < 1000 := hs.1.2
      have ht : lv x < l := hP
      simp only [List.length_cons] at h72
      rw [if_pos (by simp), List.length_cons, nn_pred, nn_ld (by omega) (by omega), hx]
      simp only [ob]
      rw [levelOf_v hx']
      simp only [ob]
      rw [ie (lvI_lt _ (lv_7 x) l hl), if_pos ht]
  | cons x Q ih =>
    intro m pc s gv hm h72 h64 e3 hs hg ep
    obtain ⟨m, rfl⟩ : ∃ k, m = k + 1 := ⟨m - 1, by simp at hm; omega⟩
    simp only [List.length_cons] at hm h72 h64 e3
    have hT : hq_isT v := hv
    have hx : hq_gi s 75 (Q.length + P.length) = Int32.ofNat x := by have := hs.1.1; rwa [show (Q.append P).length = Q.length + P.length from List.length_append] at this
    have hx' : x < 1000 := hs.1.2
    have ht : l ≤ lv x := hg x List.mem_cons_self
    let s1 := hq_si s 48 3 (Int32.ofNat (Q.length + P.length))
    let s2 := hq_si (hq_si s1 (v + 10) pc (Int32.ofNat (20000 + x))) (v + 9) 1 (Int32.ofNat (pc + 1))
    have step : f_X6_settle_L0 N (m + 1) (lvI l) s = f_X6_settle_L0 N m (lvI l) s2 := by
      rw [f_X6_settle_L0_s]
      unfold f_X6_settle_L0_B
      rw [e3, ie (show ((0 : Int32) < Int32.ofNat (Q.length + 1 + P.length)) = (0 < Q.length + 1 + P.length) from nb_ltp (a := 0) (by omega) (by omega)), if_pos (by omega), show Q.length + 1 + P.length = (Q.length + P.length) + 1 by omega, nn_pred, nn_ld (by omega) (by omega), hx]
      simp only [ob]
      rw [levelOf_v hx']
      simp only [ob]
      rw [ie (lvI_lt _ (lv_7 x) l hl), if_neg (by omega), e3, show Q.length + 1 + P.length = (Q.length + P.length) + 1 by omega, nn_pred, nn_pi]
      simp only [ob]
      rw [show hq_gr (hq_si s 48 3 (Int32.ofNat (Q.length + P.length))) 48 1 = v from gv, if_pos hT, nn_g1, nn_ld (by omega) (by omega), nn_n (by omega), hx]
      simp only [ob]
      rw [show (20000 : Int32) + Int32.ofNat x = Int32.ofNat (20000 + x) from nb_add 20000 x, put_v (pc := pc) (by rw [nn_n (by omega)]; exact ep) (by omega)]
      rfl
    have k2 : ∀ k i, ¬ (k = 48 ∧ i = 3) → ¬ (k = v + 9 ∧ i = 1) → ¬ (k = v + 10 ∧ pc = i) → hq_gi s2 k i = hq_gi s k i := fun k i n1 n2 n3 => by
      show hq_gi (hq_si (hq_si (hq_si s 48 3 (Int32.ofNat (Q.length + P.length))) (v + 10) pc (Int32.ofNat (20000 + x))) (v + 9) 1 (Int32.ofNat (pc + 1))) k i = _
      rw [nn_n n2, nn_n (by omega), nn_n n1]
    have a1 : hq_gi s2 48 3 = Int32.ofNat (Q.length + P.length) := by
      show hq_gi (hq_si (hq_si (hq_si s 48 3 (Int32.ofNat (Q.length + P.length))) (v + 10) pc (Int32.ofNat (20000 + x))) (v + 9) 1 (Int32.ofNat (pc + 1))) 48 3 = _
      rw [nn_n (by omega), nn_n (by omega), nn_g1]
    have a2 : hq_gi s2 (v + 10) pc = Int32.ofNat (20000 + x) := by
      show hq_gi (hq_si (hq_si (hq_si s 48 3 (Int32.ofNat (Q.length + P.length))) (v + 10) pc (Int32.ofNat (20000 + x))) (v + 9) 1 (Int32.ofNat (pc + 1))) (v + 10) pc = _
      rw [nn_n (by omega), nn_g1]
    have a3 : hq_gi s2 (v + 9) 1 = Int32.ofNat (pc + 1) := nn_g1
    obtain ⟨s', h1, h2, h3, h4, h5, h6⟩ := ih m (pc + 1) s2 gv (by omega) (by omega) (by omega) a1 (stk_k _ _ (Nat.le_refl _) (fun i _ => k2 _ _ (by omega) (by omega) (by omega)) hs.2) (fun y hy => hg y (List.mem_cons_of_mem _ hy)) a3
    refine ⟨s', by rw [step]; exact h1, h2, by rw [h3, List.length_cons]; exact congrArg _ (by omega), fun i hi => ?_, fun k i n1 n2 n3 => (h5 k i n1 n2 (by omega)).trans (k2 k i n1 n2 (by omega)), h6⟩
    cases i with
    | zero =>
      exact (h5 (v + 10) pc (by omega) (by omega) (by omega)).trans a2
    | succ i =>
      have := h4 i (by simp at hi; omega)
      rw [show pc + (i + 1) = pc + 1 + i by omega, this]
      rfl
end
