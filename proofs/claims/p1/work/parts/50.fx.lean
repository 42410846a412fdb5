/-! A SYMBOLIC RUN of the mini machine over a fixed heap: ints may be variables (plus a constant), each variable with an interval; a branch that isn't decided is gone both ways -/
/-- .inl v: just v; .inr (j, c): the int that the j-th variable holds, plus c -/
abbrev fx_V : Type := Value ⊕ (Nat × Int32)
abbrev fx_Env : Type := List (Int × Int)
abbrev fx_Loc : Type := List (Option fx_V)
/-- what was written: cell, place, value; the latest first -/
abbrev fx_U : Type := List ((Nat × Nat) × fx_V)
def fx_ev (p : Nat → Int32) (v : fx_V) : Value := match v with
  | .inl w => w
  | .inr j => .int (p j.1 + j.2)
def fx_i32 (v : Value) : Int32 := match v with
  | .int x => x
  | _ => 0
def fx_evl (p : Nat → Int32) (r : fx_Loc) : mm_Loc := r.map fun o => o.map (fx_ev p)
def fx_evs (p : Nat → Int32) (st : List fx_V) : List Value := st.map (fx_ev p)
def fx_top : Int × Int := (-2147483648, 2147483647)
/-- the first six variables are the script's ints; the intervals hold -/
def fx_ok (xs : List Int32) (E : fx_Env) (p : Nat → Int32) : Prop := 6 ≤ E.length ∧ (∀ i, i < 6 → p i = xs.getD i 0) ∧ ∀ (j : Nat) (q : Int × Int), E[j]? = some q → q.1 ≤ (p j).toInt ∧ (p j).toInt ≤ q.2
theorem fx_top_ok (x : Int32) : fx_top.1 ≤ x.toInt ∧ x.toInt ≤ fx_top.2 := by
  have h1 := Int32.le_toInt x
  have h2 := Int32.toInt_lt x
  show -2147483648 ≤ x.toInt ∧ x.toInt ≤ 2147483647
  omega
/-- no wrap -/
def fx_nw (q : Int × Int) (c : Int32) : Bool := decide (-2147483648 ≤ q.1 + c.toInt) && decide (q.2 + c.toInt ≤ 2147483647)
theorem fx_nw_spec {q : Int × Int} {c x : Int32} (h : fx_nw q c = true) (h1 : q.1 ≤ x.toInt) (h2 : x.toInt ≤ q.2) : (x + c).toInt = x.toInt + c.toInt := by
  unfold fx_nw at h
  simp only [Bool.and_eq_true, decide_eq_true_eq] at h
  rw [Int32.toInt_add]
  simp only [Int.bmod]
  omega
/-- the interval of an int -/
def fx_iv (E : fx_Env) (v : fx_V) : Option (Int × Int) := match v with
  | .inl (.int x) => some (x.toInt, x.toInt)
  | .inl _ => none
  | .inr j => match E[j.1]? with
    | some q => bif fx_nw q j.2 then some (q.1 + j.2.toInt, q.2 + j.2.toInt) else some fx_top
    | none => none
theorem fx_iv_spec {xs : List Int32} {E : fx_Env} {p : Nat → Int32} (hp : fx_ok xs E p) {v : fx_V} {q : Int × Int} (h : fx_iv E v = some q) : ∃ x : Int32, fx_ev p v = .int x ∧ q.1 ≤ x.toInt ∧ x.toInt ≤ q.2 := by
  unfold fx_iv at h
  split at h
  · next x =>
    cases h
    exact ⟨x, rfl, Int.le_refl _, Int.le_refl _⟩
  · cases h
  · next j =>
    split at h
    · next z hz =>
      obtain ⟨g1, g2⟩ := hp.2.2 _ _ hz
      rcases mm_bif h with ⟨hn, h⟩ | ⟨hn, h⟩
      · cases h
        refine ⟨_, rfl, ?_⟩
        have := fx_nw_spec hn g1 g2
        dsimp only
        omega
      · cases h
        exact ⟨_, rfl, fx_top_ok _⟩
    · cases h
/-- narrower -/
def fx_cut (E : fx_Env) (v : fx_V) (lo hi : Int) : fx_Env := match v with
  | .inl _ => E
  | .inr j => match E[j.1]? with
    | some q => bif fx_nw q j.2 then E.set j.1 (max q.1 (lo - j.2.toInt), min q.2 (hi - j.2.toInt)) else E
    | none => E
theorem fx_cut_ok {xs : List Int32} {E : fx_Env} {p : Nat → Int32} (hp : fx_ok xs E p) {v : fx_V} {x : Int32} {lo hi : Int} (hv : fx_ev p v = .int x) (h1 : lo ≤ x.toInt) (h2 : x.toInt ≤ hi) : fx_ok xs (fx_cut E v lo hi) p := by
  unfold fx_cut
  split
  · exact hp
  · next j =>
    have hx : p j.1 + j.2 = x := by
      have : Value.int (p j.1 + j.2) = Value.int x := hv
      cases this
      rfl
    split
    · next q hq =>
      cases hn : fx_nw q j.2 with
      | false => exact hp
      | true =>
        obtain ⟨g1, g2⟩ := hp.2.2 _ _ hq
        have hs := fx_nw_spec hn g1 g2
        rw [hx] at hs
        refine ⟨by rw [cond_true, List.length_set]; exact hp.1, hp.2.1, fun k z hk => ?_⟩
        rw [cond_true, List.getElem?_set] at hk
        by_cases hjk : j.1 = k
        · subst hjk
          have hl : j.1 < E.length := (List.getElem?_eq_some_iff.mp hq).1
          rw [if_pos rfl, if_pos hl] at hk
          cases hk
          exact ⟨Int.max_le.mpr ⟨g1, by omega⟩, Int.le_min.mpr ⟨g2, by omega⟩⟩
        · rw [if_neg hjk] at hk
          exact hp.2.2 k z hk
    · exact hp
theorem fx_cut_len (E : fx_Env) (v : fx_V) (lo hi : Int) : (fx_cut E v lo hi).length = E.length := by
  unfold fx_cut
  split
  · rfl
  · split
    · next q hq => cases fx_nw q _ <;> simp
    · rfl
/-- a variable of which one value alone is left -/
def fx_res (E : fx_Env) (v : fx_V) : fx_V := match v with
  | .inl w => .inl w
  | .inr j => match fx_iv E (.inr j) with
    | some q => bif decide (q.1 = q.2) then .inl (.int (Int32.ofInt q.1)) else .inr j
    | none => .inr j
theorem fx_res_ev {xs : List Int32} {E : fx_Env} {p : Nat → Int32} (hp : fx_ok xs E p) (v : fx_V) : fx_ev p (fx_res E v) = fx_ev p v := by
  unfold fx_res
  split
  · rfl
  · next j =>
    split
    · next q hq =>
      cases hd : decide (q.1 = q.2) with
      | false => rfl
      | true =>
        obtain ⟨x, hx, h1, h2⟩ := fx_iv_spec hp hq
        have he : q.1 = q.2 := of_decide_eq_true hd
        have : x.toInt = q.1 := by omega
        show Value.int (Int32.ofInt q.1) = _
        rw [hx, ← this, Int32.ofInt_toInt]
    · rfl
/-- x < y: which ways it may go, each with the narrower intervals -/
def fx_lt (E : fx_Env) (x y : fx_V) (f : Bool → fx_Env → Bool) : Bool := match fx_iv E x, fx_iv E y with
  | some a, some b => (bif decide (a.1 < b.2) then f true (fx_cut (fx_cut E x a.1 (b.2 - 1)) y (a.1 + 1) b.2) else true) && (bif decide (b.1 ≤ a.2) then f false (fx_cut (fx_cut E x b.1 a.2) y b.1 a.2) else true)
  | _, _ => false
theorem fx_bifT {b c : Bool} (h : (bif b then c else true) = true) (hb : b = true) : c = true := by
  subst hb
  exact h
theorem fx_lt_spec {xs : List Int32} {E : fx_Env} {p : Nat → Int32} (hp : fx_ok xs E p) {x y : fx_V} {f : Bool → fx_Env → Bool} (h : fx_lt E x y f = true) :
    ∃ X Y : Int32, fx_ev p x = .int X ∧ fx_ev p y = .int Y ∧ ∃ E' : fx_Env, f (decide (X < Y)) E' = true ∧ fx_ok xs E' p ∧ E'.length = E.length := by
  unfold fx_lt at h
  split at h
  · next a b ha hb =>
    obtain ⟨X, hX, a1, a2⟩ := fx_iv_spec hp ha
    obtain ⟨Y, hY, b1, b2⟩ := fx_iv_spec hp hb
    obtain ⟨h1, h2⟩ := Bool.and_eq_true_iff.mp h
    refine ⟨X, Y, hX, hY, ?_⟩
    by_cases hc : X < Y
    · have hi := Int32.lt_iff_toInt_lt.mp hc
      rw [decide_eq_true hc]
      exact ⟨_, fx_bifT h1 (decide_eq_true (by omega)), fx_cut_ok (fx_cut_ok hp hX (by omega) (by omega)) hY (by omega) (by omega), by rw [fx_cut_len, fx_cut_len]⟩
    · have hi : ¬ X.toInt < Y.toInt := fun q => hc (Int32.lt_iff_toInt_lt.mpr q)
      rw [decide_eq_false hc]
      exact ⟨_, fx_bifT h2 (decide_eq_true (by omega)), fx_cut_ok (fx_cut_ok hp hX (by omega) (by omega)) hY (by omega) (by omega), by rw [fx_cut_len, fx_cut_len]⟩
  · cases h
def fx_same (x y : fx_V) : Bool := match x, y with
  | .inr a, .inr b => Nat.beq a.1 b.1 && decide (a.2 = b.2)
  | _, _ => false
def fx_eq (E : fx_Env) (x y : fx_V) (f : Bool → fx_Env → Bool) : Bool := bif fx_same x y then (match fx_iv E x with
    | some _ => f true E
    | none => false) else match fx_iv E x, fx_iv E y with
  | some a, some b => (bif decide (b.1 ≤ a.2) && decide (a.1 ≤ b.2) then f true (fx_cut (fx_cut E x b.1 b.2) y a.1 a.2) else true) && (bif decide (b.1 = b.2) then (bif decide (a.1 < b.1) then f false (fx_cut E x a.1 (b.1 - 1)) else true) && (bif decide (b.1 < a.2) then f false (fx_cut E x (b.1 + 1) a.2) else true) else f false E)
  | _, _ => false
theorem fx_eq_spec {xs : List Int32} {E : fx_Env} {p : Nat → Int32} (hp : fx_ok xs E p) {x y : fx_V} {f : Bool → fx_Env → Bool} (h : fx_eq E x y f = true) :
    ∃ X Y : Int32, fx_ev p x = .int X ∧ fx_ev p y = .int Y ∧ ∃ E' : fx_Env, f (decide (X = Y)) E' = true ∧ fx_ok xs E' p ∧ E'.length = E.length := by
  unfold fx_eq at h
  cases hs : fx_same x y with
  | true =>
    rw [hs, cond_true] at h
    split at h
    · next q hq =>
      obtain ⟨X, hX, -, -⟩ := fx_iv_spec hp hq
      have hxy : x = y := by
        unfold fx_same at hs
        split at hs
        · next a b =>
          obtain ⟨s1, s2⟩ := Bool.and_eq_true_iff.mp hs
          have s3 := Nat.eq_of_beq_eq_true s1
          have s4 := of_decide_eq_true s2
          exact congrArg Sum.inr (Prod.ext s3 s4)
        · cases hs
      subst hxy
      exact ⟨X, X, hX, hX, E, by rw [decide_eq_true rfl]; exact h, hp, rfl⟩
    · cases h
  | false =>
    rw [hs, cond_false] at h
    split at h
    · next a b ha hb =>
      obtain ⟨X, hX, a1, a2⟩ := fx_iv_spec hp ha
      obtain ⟨Y, hY, b1, b2⟩ := fx_iv_spec hp hb
      obtain ⟨h1, h2⟩ := Bool.and_eq_true_iff.mp h
      refine ⟨X, Y, hX, hY, ?_⟩
      by_cases hc : X = Y
      · have hi : X.toInt = Y.toInt := by rw [hc]
        rw [decide_eq_true hc]
        exact ⟨_, fx_bifT h1 (by rw [decide_eq_true (show b.1 ≤ a.2 by omega), decide_eq_true (show a.1 ≤ b.2 by omega)]; rfl), fx_cut_ok (fx_cut_ok hp hX (by omega) (by omega)) hY (by omega) (by omega), by rw [fx_cut_len, fx_cut_len]⟩
      · have hi : ¬ X.toInt = Y.toInt := fun q => hc (Int32.toInt_inj.mp q)
        rw [decide_eq_false hc]
        cases hd : decide (b.1 = b.2) with
        | false =>
          rw [hd, cond_false] at h2
          exact ⟨E, h2, hp, rfl⟩
        | true =>
          rw [hd, cond_true] at h2
          have hd := of_decide_eq_true hd
          obtain ⟨h3, h4⟩ := Bool.and_eq_true_iff.mp h2
          rcases Int.lt_or_gt_of_ne hi with g | g
          · exact ⟨_, fx_bifT h3 (decide_eq_true (by omega)), fx_cut_ok hp hX (by omega) (by omega), fx_cut_len _ _ _ _⟩
          · exact ⟨_, fx_bifT h4 (decide_eq_true (by omega)), fx_cut_ok hp hX (by omega) (by omega), fx_cut_len _ _ _ _⟩
    · cases h
def fx_br (E : fx_Env) (c : Jvm.ClassFile.Cond) (x y : fx_V) (f : Bool → fx_Env → Bool) : Bool := match c with
  | .eq => fx_eq E x y f
  | .ne => fx_eq E x y fun b => f (!b)
  | .lt => fx_lt E x y f
  | .ge => fx_lt E x y fun b => f (!b)
  | .gt => fx_lt E y x f
  | .le => fx_lt E y x fun b => f (!b)
theorem fx_br_spec {xs : List Int32} {E : fx_Env} {p : Nat → Int32} (hp : fx_ok xs E p) {c : Jvm.ClassFile.Cond} {x y : fx_V} {f : Bool → fx_Env → Bool} (h : fx_br E c x y f = true) :
    ∃ X Y : Int32, fx_ev p x = .int X ∧ fx_ev p y = .int Y ∧ ∃ E' : fx_Env, f (mm_cmp c X Y) E' = true ∧ fx_ok xs E' p ∧ E'.length = E.length := by
  have hne : ∀ X Y : Int32, (!decide (X = Y)) = decide (¬ X = Y) := fun X Y => by by_cases q : X = Y <;> simp [q]
  have hle : ∀ X Y : Int32, (!decide (X < Y)) = decide (Y ≤ X) := fun X Y => by
    by_cases q : X < Y
    · have : ¬ Y ≤ X := Int32.not_le.mpr q
      simp [q, this]
    · have : Y ≤ X := Int32.not_lt.mp q
      simp [q, this]
  cases c
  case eq => exact fx_eq_spec hp h
  case ne =>
    obtain ⟨X, Y, h1, h2, E', h3, h4⟩ := fx_eq_spec hp (f := fun b => f (!b)) h
    exact ⟨X, Y, h1, h2, E', by rw [show mm_cmp .ne X Y = decide (¬ X = Y) from rfl, ← hne]; exact h3, h4⟩
  case lt => exact fx_lt_spec hp h
  case ge =>
    obtain ⟨X, Y, h1, h2, E', h3, h4⟩ := fx_lt_spec hp (f := fun b => f (!b)) h
    exact ⟨X, Y, h1, h2, E', by rw [show mm_cmp .ge X Y = decide (Y ≤ X) from rfl, ← hle]; exact h3, h4⟩
  case gt =>
    obtain ⟨X, Y, h1, h2, h3⟩ := fx_lt_spec hp h
    exact ⟨Y, X, h2, h1, h3⟩
  case le =>
    obtain ⟨X, Y, h1, h2, E', h3, h4⟩ := fx_lt_spec hp (f := fun b => f (!b)) h
    exact ⟨Y, X, h2, h1, E', by rw [show mm_cmp .le Y X = decide (Y ≤ X) from rfl, ← hle]; exact h3, h4⟩
/-- the values of an int, one by one -/
def fx_each (E : fx_Env) (v : fx_V) (f : fx_Env → Int32 → Bool) (lo : Int) : Nat → Bool
  | 0 => true
  | n + 1 => f (fx_cut E v (lo + n) (lo + n)) (Int32.ofInt (lo + n)) && fx_each E v f lo n
theorem fx_each_spec {xs : List Int32} {E : fx_Env} {p : Nat → Int32} (hp : fx_ok xs E p) {v : fx_V} {f : fx_Env → Int32 → Bool} {lo : Int} {x : Int32} (hv : fx_ev p v = .int x) (h1 : lo ≤ x.toInt) :
    ∀ n : Nat, fx_each E v f lo n = true → x.toInt < lo + n → ∃ E' : fx_Env, f E' x = true ∧ fx_ok xs E' p ∧ E'.length = E.length := by
  intro n
  induction n with
  | zero => intro _ h2; omega
  | succ n ih =>
    intro h h2
    obtain ⟨g1, g2⟩ := Bool.and_eq_true_iff.mp (show (f (fx_cut E v (lo + n) (lo + n)) (Int32.ofInt (lo + n)) && fx_each E v f lo n) = true from h)
    by_cases hc : x.toInt = lo + n
    · rw [← hc, Int32.ofInt_toInt] at g1
      exact ⟨_, g1, fx_cut_ok hp hv (Int.le_refl _) (Int.le_refl _), fx_cut_len _ _ _ _⟩
    · exact ih g2 (by omega)
def fx_split (E : fx_Env) (v : fx_V) (f : fx_Env → Int32 → Bool) : Bool := match v with
  | .inl (.int x) => f E x
  | .inl _ => false
  | .inr j => match fx_iv E (.inr j) with
    | some q => bif decide (q.2 - q.1 < 65) then fx_each E (.inr j) f q.1 (q.2 + 1 - q.1).toNat else false
    | none => false
theorem fx_split_spec {xs : List Int32} {E : fx_Env} {p : Nat → Int32} (hp : fx_ok xs E p) {v : fx_V} {f : fx_Env → Int32 → Bool} (h : fx_split E v f = true) :
    ∃ x : Int32, fx_ev p v = .int x ∧ ∃ E' : fx_Env, f E' x = true ∧ fx_ok xs E' p ∧ E'.length = E.length := by
  unfold fx_split at h
  split at h
  · next x => exact ⟨x, rfl, E, h, hp, rfl⟩
  · cases h
  · next j =>
    split at h
    · next q hq =>
      obtain ⟨x, hx, h1, h2⟩ := fx_iv_spec hp hq
      cases hd : decide (q.2 - q.1 < 65) with
      | false => rw [hd] at h; cases h
      | true =>
        rw [hd, cond_true] at h
        exact ⟨x, hx, fx_each_spec hp hx h1 _ h (by omega)⟩
    · cases h
