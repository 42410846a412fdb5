/-! variables below a bound; new variables -/
def fx_wf (n : Nat) (v : fx_V) : Bool := match v with
  | .inl _ => true
  | .inr j => Nat.blt j.1 n
def fx_wfl (n : Nat) (r : fx_Loc) : Bool := r.all fun o => match o with
  | none => true
  | some v => fx_wf n v
def fx_wfs (n : Nat) (st : List fx_V) : Bool := st.all (fx_wf n)
def fx_wfu (n : Nat) (U : fx_U) : Bool := U.all fun u => fx_wf n u.2
/-- two valuations agree below n -/
def fx_ag (n : Nat) (p q : Nat → Int32) : Prop := ∀ j, j < n → q j = p j
theorem fx_wf_ev {n : Nat} {p q : Nat → Int32} (h : fx_ag n p q) {v : fx_V} (hv : fx_wf n v = true) : fx_ev q v = fx_ev p v := by
  cases v with
  | inl w => rfl
  | inr j =>
    have hj : j.1 < n := by simpa [fx_wf, Nat.blt_eq] using hv
    show Value.int (q j.1 + j.2) = Value.int (p j.1 + j.2)
    rw [h j.1 hj]
theorem fx_wfs_ev {n : Nat} {p q : Nat → Int32} (h : fx_ag n p q) {st : List fx_V} (hv : fx_wfs n st = true) : fx_evs q st = fx_evs p st := by
  unfold fx_evs
  apply List.map_congr_left
  intro v hm
  exact fx_wf_ev h (List.all_eq_true.mp hv v hm)
theorem fx_wfl_ev {n : Nat} {p q : Nat → Int32} (h : fx_ag n p q) {r : fx_Loc} (hv : fx_wfl n r = true) : fx_evl q r = fx_evl p r := by
  unfold fx_evl
  apply List.map_congr_left
  intro o hm
  have ho := List.all_eq_true.mp hv o hm
  cases o with
  | none => rfl
  | some v => exact congrArg some (fx_wf_ev h ho)
theorem fx_wfu_ev {n : Nat} {B : mm_Heap} {p q : Nat → Int32} (h : fx_ag n p q) : ∀ {U : fx_U}, fx_wfu n U = true → fx_evh B q U = fx_evh B p U := by
  intro U
  induction U with
  | nil => intro _; rfl
  | cons u U ih =>
    intro hv
    obtain ⟨h1, h2⟩ := Bool.and_eq_true_iff.mp (show (fx_wf n u.2 && fx_wfu n U) = true from hv)
    show fx_put (fx_evh B q U) _ _ (fx_ev q u.2) = fx_put (fx_evh B p U) _ _ (fx_ev p u.2)
    rw [ih h2, fx_wf_ev h h1]
/-- later intervals, later values -/
def fx_Means (xs : List Int32) (E : fx_Env) (p : Nat → Int32) (E' : fx_Env) (p' : Nat → Int32) : Prop := fx_ok xs E' p' ∧ fx_ag E.length p p' ∧ E.length ≤ E'.length
theorem fx_Means.rf {xs : List Int32} {E : fx_Env} {p : Nat → Int32} (h : fx_ok xs E p) : fx_Means xs E p E p := ⟨h, fun _ _ => rfl, Nat.le_refl _⟩
theorem fx_Means.cut {xs : List Int32} {E E' : fx_Env} {p : Nat → Int32} (h : fx_ok xs E' p) (hl : E'.length = E.length) : fx_Means xs E p E' p := ⟨h, fun _ _ => rfl, Nat.le_of_eq hl.symm⟩
theorem fx_Means.tr {xs : List Int32} {E E' E'' : fx_Env} {p p' p'' : Nat → Int32} (h : fx_Means xs E p E' p') (g : fx_Means xs E' p' E'' p'') : fx_Means xs E p E'' p'' :=
  ⟨g.1, fun j hj => (g.2.1 j (Nat.lt_of_lt_of_le hj h.2.2)).trans (h.2.1 j hj), Nat.le_trans h.2.2 g.2.2⟩
def fx_set (p : Nat → Int32) (j : Nat) (x : Int32) : Nat → Int32 := fun k => if k = j then x else p k
theorem fx_push {xs : List Int32} {E : fx_Env} {p : Nat → Int32} (hp : fx_ok xs E p) {iv : Int × Int} {x : Int32} (h1 : iv.1 ≤ x.toInt) (h2 : x.toInt ≤ iv.2) : fx_Means xs E p (E ++ [iv]) (fx_set p E.length x) := by
  have hag : fx_ag E.length p (fx_set p E.length x) := by
    intro j hj
    unfold fx_set
    rw [if_neg (by omega)]
  refine ⟨⟨by simp; have := hp.1; omega, fun i hi => ?_, fun j q hj => ?_⟩, hag, by simp⟩
  · rw [hag i (by have := hp.1; omega)]
    exact hp.2.1 i hi
  · rcases Nat.lt_or_ge j E.length with g | g
    · rw [List.getElem?_append_left g] at hj
      rw [hag j g]
      exact hp.2.2 j q hj
    · rw [List.getElem?_append_right g] at hj
      have hz : j - E.length < 1 := (List.getElem?_eq_some_iff.mp hj).1
      have hj0 : j = E.length := by omega
      subst hj0
      simp at hj
      subst hj
      have : fx_set p E.length x E.length = x := by
        unfold fx_set
        rw [if_pos rfl]
      rw [this]
      exact ⟨h1, h2⟩
theorem fx_push_ev (p : Nat → Int32) (n : Nat) (x : Int32) : fx_ev (fx_set p n x) (.inr (n, 0)) = .int x := by
  show Value.int (fx_set p n x n + 0) = _
  unfold fx_set
  rw [if_pos rfl, Int32.add_zero]
abbrev fx_St : Type := fx_Env × fx_Loc × List fx_V × fx_U
/-- a value of which nothing but an interval is known is pushed -/
def fx_fresh (E : fx_Env) (iv : Int × Int) (r : fx_Loc) (st : List fx_V) (U : fx_U) : Option fx_St :=
  bif fx_wfl E.length r && (fx_wfs E.length st && fx_wfu E.length U) then some (E ++ [iv], r, .inr (E.length, 0) :: st, U) else none
theorem fx_fresh_spec {xs : List Int32} {B : mm_Heap} {E : fx_Env} {p : Nat → Int32} (hp : fx_ok xs E p) {iv : Int × Int} {x : Int32} (h1 : iv.1 ≤ x.toInt) (h2 : x.toInt ≤ iv.2) {r : fx_Loc} {st : List fx_V} {U : fx_U} {S : fx_St} (hf : fx_fresh E iv r st U = some S) :
    ∃ p', fx_Means xs E p S.1 p' ∧ fx_evl p' S.2.1 = fx_evl p r ∧ fx_evs p' S.2.2.1 = .int x :: fx_evs p st ∧ fx_evh B p' S.2.2.2 = fx_evh B p U := by
  unfold fx_fresh at hf
  rcases mm_bif hf with ⟨hc, hf⟩ | ⟨-, hf⟩
  · cases hf
    simp only [Bool.and_eq_true] at hc
    have hM := fx_push hp h1 h2
    refine ⟨_, hM, fx_wfl_ev hM.2.1 hc.1, ?_, fx_wfu_ev hM.2.1 hc.2.2⟩
    show fx_ev _ (.inr (E.length, 0)) :: fx_evs _ st = _
    rw [fx_wfs_ev hM.2.1 hc.2.1, fx_push_ev]
  · cases hf
/-! locals -/
def fx_get (r : fx_Loc) (i : Nat) : Option fx_V := match r[i]? with
  | some v => v
  | none => none
def fx_kill (r : fx_Loc) (i : Nat) : fx_Loc := match i with
  | 0 => r
  | j + 1 => match r[j]? with
    | some (some (.inl (.long _))) => r.set j none
    | some (some (.inl (.double _))) => r.set j none
    | _ => r
def fx_put1 (r : fx_Loc) (i : Nat) (v : fx_V) : Option fx_Loc := bif Nat.blt i r.length then some ((fx_kill r i).set i (some v)) else none
def fx_put2 (r : fx_Loc) (i : Nat) (v : fx_V) : Option fx_Loc := bif Nat.blt (i + 1) r.length then some (((fx_kill r i).set i (some v)).set (i + 1) none) else none
theorem fx_get_ev (p : Nat → Int32) (r : fx_Loc) (i : Nat) : mm_get (fx_evl p r) i = (fx_get r i).map (fx_ev p) := by
  unfold mm_get fx_get fx_evl
  rw [List.getElem?_map]
  cases r[i]? with
  | none => rfl
  | some o => rfl
theorem fx_kill_ev (p : Nat → Int32) (r : fx_Loc) (i : Nat) : mm_kill (fx_evl p r) i = fx_evl p (fx_kill r i) := by
  unfold mm_kill fx_kill
  cases i with
  | zero => rfl
  | succ j =>
    dsimp only
    have he : (fx_evl p r)[j]? = (r[j]?).map (fun o => o.map (fx_ev p)) := by
      unfold fx_evl
      rw [List.getElem?_map]
    rw [he]
    cases r[j]? with
    | none => rfl
    | some o =>
      cases o with
      | none => rfl
      | some v =>
        cases v with
        | inr k => rfl
        | inl w =>
          cases w with
          | long x => simp [fx_evl, fx_ev, List.map_set]
          | double x => simp [fx_evl, fx_ev, List.map_set]
          | _ => rfl
theorem fx_put1_ev (p : Nat → Int32) (r : fx_Loc) (i : Nat) (v : fx_V) : mm_put1 (fx_evl p r) i (fx_ev p v) = (fx_put1 r i v).map (fx_evl p) := by
  unfold mm_put1 fx_put1
  rw [fx_kill_ev]
  have hl : (fx_evl p r).length = r.length := by simp [fx_evl]
  rw [hl]
  cases Nat.blt i r.length with
  | false => rfl
  | true => simp [fx_evl, List.map_set]
theorem fx_put2_ev (p : Nat → Int32) (r : fx_Loc) (i : Nat) (v : fx_V) : mm_put2 (fx_evl p r) i (fx_ev p v) = (fx_put2 r i v).map (fx_evl p) := by
  unfold mm_put2 fx_put2
  rw [fx_kill_ev]
  have hl : (fx_evl p r).length = r.length := by simp [fx_evl]
  rw [hl]
  cases Nat.blt (i + 1) r.length with
  | false => rfl
  | true => simp [fx_evl, List.map_set]
/-! cells: L finds B's cells -/
def fx_okL (L : Nat → Option mm_Cell) (B : mm_Heap) : Prop := ∀ k c, L k = some c → B[k]? = some c
def fx_cur (U : fx_U) (k i : Nat) (w : Option Value) : Option fx_V := match fx_find U k i with
  | some v => some v
  | none => w.map .inl
def fx_noop (x y : fx_V) : Bool := match x, y with
  | .inl (.int a), .inl (.int b) => decide (a = b)
  | .inl (.ref a), .inl (.ref b) => Nat.beq a b
  | _, _ => false
theorem fx_noop_spec {x y : fx_V} (h : fx_noop x y = true) : x = y := by
  unfold fx_noop at h
  split at h
  · rw [of_decide_eq_true h]
  · rw [Nat.eq_of_beq_eq_true h]
  · cases h
/-- a write: nothing is noted where the same value stands there -/
def fx_wr (U : fx_U) (k i : Nat) (w : Option Value) (x : fx_V) : fx_U := match fx_cur U k i w with
  | some v => bif fx_noop v x then U else ((k, i), x) :: U
  | none => ((k, i), x) :: U
/-- the same, once it is worked out -/
def fx_frc (U : fx_U) : Option fx_U := match U with
  | [] => some []
  | u :: t => some (u :: t)
theorem fx_frc_eq (U : fx_U) : fx_frc U = some U := by cases U <;> rfl
theorem fx_wr_obj {B : mm_Heap} {p : Nat → Int32} {k i : Nat} {o : Nat × List Value} (hB : B[k]? = some (.inl o)) (hi : i < o.2.length) (U : fx_U) (x : fx_V) : fx_evh B p (fx_wr U k i o.2[i]? x) = fx_put (fx_evh B p U) k i (fx_ev p x) := by
  unfold fx_wr
  split
  · next v hv =>
    cases hn : fx_noop v x with
    | false => rfl
    | true =>
      have hvx := fx_noop_spec hn
      subst hvx
      obtain ⟨fs, h1, h2, h3⟩ := fx_obj (p := p) hB U
      have h4 : fs[i]? = some (fx_ev p v) := by
        rw [h3 i hi]
        unfold fx_cur at hv
        split at hv
        · next hf => cases hv; rw [hf]
        · next hf =>
          rw [hf]
          obtain ⟨z, hz, hzv⟩ := Option.map_eq_some_iff.mp hv
          rw [hz, ← hzv]
          rfl
      show fx_evh B p U = _
      unfold fx_put
      rw [h1]
      dsimp only
      obtain ⟨h5, h6⟩ := List.getElem?_eq_some_iff.mp h4
      rw [← h6, List.set_getElem_self]
      obtain ⟨h7, h8⟩ := List.getElem?_eq_some_iff.mp h1
      rw [← h8, List.set_getElem_self]
  · rfl
theorem fx_wr_arr {B : mm_Heap} {p : Nat → Int32} {k i : Nat} {o : ArrayType × List Int32} (hB : B[k]? = some (.inr (.inl o))) (hi : i < o.2.length) (U : fx_U) (x : fx_V) : fx_evh B p (fx_wr U k i (o.2[i]?.map .int) x) = fx_put (fx_evh B p U) k i (fx_ev p x) := by
  unfold fx_wr
  split
  · next v hv =>
    cases hn : fx_noop v x with
    | false => rfl
    | true =>
      have hvx := fx_noop_spec hn
      subst hvx
      obtain ⟨fs, h1, h2, h3⟩ := fx_arr (p := p) hB U
      have h4 : fs[i]? = some (fx_i32 (fx_ev p v)) := by
        rw [h3 i hi]
        unfold fx_cur at hv
        split at hv
        · next hf => cases hv; rw [hf]
        · next hf =>
          rw [hf]
          obtain ⟨z, hz, hzv⟩ := Option.map_eq_some_iff.mp hv
          obtain ⟨y, hy, hyz⟩ := Option.map_eq_some_iff.mp hz
          rw [hy, ← hzv, ← hyz]
          rfl
      show fx_evh B p U = _
      unfold fx_put
      rw [h1]
      dsimp only
      obtain ⟨h5, h6⟩ := List.getElem?_eq_some_iff.mp h4
      rw [← h6, List.set_getElem_self]
      obtain ⟨h7, h8⟩ := List.getElem?_eq_some_iff.mp h1
      rw [← h8, List.set_getElem_self]
  · rfl
def fx_getf (L : Nat → Option mm_Cell) (U : fx_U) (v : fx_V) (a b : Nat) : Option fx_V := match v with
  | .inl (.ref k) => match L k with
    | some (.inl o) => bif Nat.beq o.1 a && Nat.blt b o.2.length then fx_cur U k b o.2[b]? else none
    | _ => none
  | _ => none
theorem fx_getf_spec {L : Nat → Option mm_Cell} {B : mm_Heap} (hL : fx_okL L B) {O : mm_Old} {p : Nat → Int32} {U : fx_U} {v x : fx_V} {a b : Nat} (h : fx_getf L U v a b = some x) : mm_getf O (fx_evh B p U) (fx_ev p v) a b = some (fx_ev p x) := by
  unfold fx_getf at h
  split at h
  · next k =>
    split at h
    · next o ho =>
      rcases mm_bif h with ⟨hc, h⟩ | ⟨-, h⟩
      · obtain ⟨c1, c2⟩ := Bool.and_eq_true_iff.mp hc
        have c2 : b < o.2.length := by simpa [Nat.blt_eq] using c2
        obtain ⟨fs, h1, h2, h3⟩ := fx_obj (p := p) (hL k _ ho) U
        show mm_getf O (fx_evh B p U) (.ref k) a b = _
        unfold mm_getf
        dsimp only
        rw [h1]
        dsimp only
        rw [c1, cond_true, h3 b c2]
        unfold fx_cur at h
        split at h
        · next hf => cases h; rw [hf]
        · next hf =>
          rw [hf]
          obtain ⟨z, hz, hzv⟩ := Option.map_eq_some_iff.mp h
          rw [← hzv]
          exact hz
      · cases h
    · cases h
  · cases h
def fx_fit (E : fx_Env) (c : Nat) (x : fx_V) : Bool := match x with
  | .inl w => mm_fit c w
  | .inr j => match fx_iv E (.inr j) with
    | some q => match c with
      | 0 => true
      | 1 => decide (0 ≤ q.1) && decide (q.2 ≤ 1)
      | 2 => decide (-128 ≤ q.1) && decide (q.2 ≤ 127)
      | _ => false
    | none => false
theorem fx_fit_spec {xs : List Int32} {E : fx_Env} {p : Nat → Int32} (hp : fx_ok xs E p) {c : Nat} {x : fx_V} (h : fx_fit E c x = true) : mm_fit c (fx_ev p x) = true := by
  unfold fx_fit at h
  split at h
  · exact h
  · next j =>
    split at h
    · next q hq =>
      obtain ⟨X, hX, h1, h2⟩ := fx_iv_spec hp hq
      rw [hX]
      have z0 : ((0 : Int32)).toInt = 0 := by decide
      have z1 : ((1 : Int32)).toInt = 1 := by decide
      have z2 : ((-128 : Int32)).toInt = -128 := by decide
      have z3 : ((127 : Int32)).toInt = 127 := by decide
      split at h
      · rfl
      · simp only [Bool.and_eq_true, decide_eq_true_eq] at h
        show (decide (X = 0) || decide (X = 1)) = true
        rcases (show X.toInt = 0 ∨ X.toInt = 1 by omega) with g | g
        · rw [decide_eq_true (show X = 0 from Int32.toInt_inj.mp (by omega))]
          rfl
        · rw [decide_eq_true (show X = 1 from Int32.toInt_inj.mp (by omega)), Bool.or_true]
      · simp only [Bool.and_eq_true, decide_eq_true_eq] at h
        show (decide (-128 ≤ X) && decide (X ≤ 127)) = true
        rw [decide_eq_true (Int32.le_iff_toInt_le.mpr (by omega)), decide_eq_true (Int32.le_iff_toInt_le.mpr (by omega))]
        rfl
      · cases h
    · cases h
def fx_putf (L : Nat → Option mm_Cell) (E : fx_Env) (U : fx_U) (v : fx_V) (a b c : Nat) (x : fx_V) : Option fx_U := match v with
  | .inl (.ref k) => match L k with
    | some (.inl o) => bif Nat.beq o.1 a && (fx_fit E (c % 8) x && Nat.blt b o.2.length) then fx_frc (fx_wr U k b o.2[b]? x) else none
    | _ => none
  | _ => none
theorem fx_putf_spec {L : Nat → Option mm_Cell} {B : mm_Heap} (hL : fx_okL L B) {xs : List Int32} {E : fx_Env} {p : Nat → Int32} (hp : fx_ok xs E p) {U U' : fx_U} {v x : fx_V} {a b c : Nat} (h : fx_putf L E U v a b c x = some U') : mm_putf (fx_evh B p U) (fx_ev p v) a b c (fx_ev p x) = some (fx_evh B p U') := by
  unfold fx_putf at h
  split at h
  · next k =>
    split at h
    · next o ho =>
      rcases mm_bif h with ⟨hc, h⟩ | ⟨-, h⟩
      · rw [fx_frc_eq] at h
        cases h
        simp only [Bool.and_eq_true] at hc
        obtain ⟨c1, c2, c3⟩ := hc
        have c4 : b < o.2.length := by simpa [Nat.blt_eq] using c3
        obtain ⟨fs, h1, h2, h3⟩ := fx_obj (p := p) (hL k _ ho) U
        rw [fx_wr_obj (hL k _ ho) c4]
        show mm_putf (fx_evh B p U) (.ref k) a b c (fx_ev p x) = _
        unfold mm_putf fx_put
        dsimp only
        rw [h1]
        dsimp only
        rw [c1, fx_fit_spec hp c2, h2, c3]
        rfl
      · cases h
    · cases h
  · cases h
