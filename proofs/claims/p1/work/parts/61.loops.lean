/-! LOOPS OF HOURS: a body that adds one to the hour, done n times -/
def fx_beqV (v w : fx_V) : Bool := match v, w with
  | .inl a, .inl b => fx_veq a b
  | .inr a, .inr b => Nat.beq a.1 b.1 && decide (a.2 = b.2)
  | _, _ => false
theorem fx_beqV_spec {v w : fx_V} (h : fx_beqV v w = true) : v = w := by
  unfold fx_beqV at h
  split at h
  · rw [fx_veq_spec h]
  · obtain ⟨h1, h2⟩ := Bool.and_eq_true_iff.mp h
    exact congrArg Sum.inr (Prod.ext (Nat.eq_of_beq_eq_true h1) (of_decide_eq_true h2))
  · cases h
def fx_bequ (a b : (Nat × Nat) × fx_V) : Bool := Nat.beq a.1.1 b.1.1 && (Nat.beq a.1.2 b.1.2 && fx_beqV a.2 b.2)
theorem fx_bequ_spec {a b : (Nat × Nat) × fx_V} (h : fx_bequ a b = true) : a = b := by
  obtain ⟨h1, h2⟩ := Bool.and_eq_true_iff.mp (show (Nat.beq a.1.1 b.1.1 && (Nat.beq a.1.2 b.1.2 && fx_beqV a.2 b.2)) = true from h)
  obtain ⟨h3, h4⟩ := Bool.and_eq_true_iff.mp h2
  exact Prod.ext (Prod.ext (Nat.eq_of_beq_eq_true h1) (Nat.eq_of_beq_eq_true h3)) (fx_beqV_spec h4)
def fx_incK (E : fx_Env) (U : fx_U) (g q i : Nat) : fx_K := fun _ v U' g' => (match v with
  | none => true
  | some _ => false) && (fx_leq fx_bequ U' (((q, i), .inr (E.length, 1)) :: ((q, i), .inr (E.length, 0)) :: U) && Nat.beq g' g)
def fx_inc (P : Nat → Option mm_Meth) (L : Nat → Option mm_Cell) (E : fx_Env) (N : mm_Meth) (args : List fx_V) (U : fx_U) (g q i : Nat) : Bool :=
  fx_wfs E.length args && (fx_wfu E.length U && fx_run P L (fun _ => none) 3000 (E ++ [(0, 199)]) 25 N 0 (fx_entry (mm_maxL N) args) [] (((q, i), .inr (E.length, 0)) :: U) g (fx_incK E U g q i))
theorem fx_put_put (h : mm_Heap) (q i : Nat) (a b : Value) : fx_put (fx_put h q i a) q i b = fx_put h q i b := by
  rcases hq : h[q]? with _ | (o | (o | o))
  · have e : ∀ v, fx_put h q i v = h := fun v => by
      unfold fx_put
      rw [hq]
    rw [e a]
  · have e : ∀ v, fx_put h q i v = h.set q (.inl (o.1, o.2.set i v)) := fun v => by
      unfold fx_put
      rw [hq]
    rw [e a, e b]
    unfold fx_put
    rw [List.getElem?_set_self (List.getElem?_eq_some_iff.mp hq).1]
    dsimp only
    rw [List.set_set, List.set_set]
  · have e : ∀ v, fx_put h q i v = h.set q (.inr (.inl (o.1, o.2.set i (fx_i32 v)))) := fun v => by
      unfold fx_put
      rw [hq]
    rw [e a, e b]
    unfold fx_put
    rw [List.getElem?_set_self (List.getElem?_eq_some_iff.mp hq).1]
    dsimp only
    rw [List.set_set, List.set_set]
  · have e : ∀ v, fx_put h q i v = h := fun v => by
      unfold fx_put
      rw [hq]
    rw [e a]
theorem fx_okS0 (P : Nat → Option mm_Meth) (O : mm_Old) (B : mm_Heap) (xs : List Int32) : fx_okS P O B xs (fun _ => none) := by
  intro a f N h
  cases h
theorem fx_inc_spec {P : Nat → Option mm_Meth} {L : Nat → Option mm_Cell} {B : mm_Heap} (hL : fx_okL L B) {xs : List Int32} (hxs : xs.length = 6) {SS : List (List Int32) × List (List Nat)} {E : fx_Env} {p : Nat → Int32} (hp : fx_ok xs E p) {N : mm_Meth} {args : List fx_V} {U : fx_U} {g q i : Nat} (h : fx_inc P L E N args U g q i = true) (z : Int32) (z1 : 0 ≤ z.toInt) (z2 : z.toInt ≤ 199) :
    ∃ n, mm_run P (0 :: xs, SS) n 25 N 0 (mm_entry (mm_maxL N) (fx_evs p args)) [] (fx_put (fx_evh B p U) q i (.int z)) g = some (none, fx_put (fx_evh B p U) q i (.int (z + 1)), g) := by
  unfold fx_inc at h
  simp only [Bool.and_eq_true] at h
  obtain ⟨w1, w2, h⟩ := h
  have hM := fx_push (iv := (0, 199)) hp z1 z2
  obtain ⟨E', p', v, U', g', n', hM', hK, hrun⟩ := fx_run_spec hL hxs (fx_okS0 P (0 :: xs, SS) B xs) 3000 _ _ _ _ _ _ _ _ _ _ h hM.1
  unfold fx_incK at hK
  simp only [Bool.and_eq_true] at hK
  obtain ⟨k1, k2, k3⟩ := hK
  have e1 : v = none := by
    cases v with
    | none => rfl
    | some w => cases k1
  have e2 := fx_leq_spec (fun _ _ => fx_bequ_spec) _ _ k2
  have e3 := Nat.eq_of_beq_eq_true k3
  subst e1; subst e2; subst e3
  refine ⟨n', ?_⟩
  have a1 : p' E.length = z := by
    rw [hM'.2.1 E.length (by simp)]
    unfold fx_set
    rw [if_pos rfl]
  have a2 : fx_ag E.length p p' := fun j hj => (hM'.2.1 j (by simp; omega)).trans (hM.2.1 j hj)
  rw [← fx_entry_ev, fx_wfs_ev hM.2.1 w1] at hrun
  have hrun2 : mm_run P (0 :: xs, SS) n' 25 N 0 (mm_entry (mm_maxL N) (fx_evs p args)) [] (fx_put (fx_evh B (fx_set p E.length z) U) q i (fx_ev (fx_set p E.length z) (.inr (E.length, 0)))) g' = some (none, fx_put (fx_put (fx_evh B p' U) q i (.int (p' E.length + 0))) q i (.int (p' E.length + 1)), g') := hrun
  rw [fx_push_ev, fx_wfu_ev hM.2.1 w2, fx_wfu_ev a2 w2, fx_put_put, a1] at hrun2
  exact hrun2
theorem mm_getf_put {O : mm_Old} {h : mm_Heap} {q a b : Nat} {w : Value} (hg : mm_getf O h (.ref q) a b = some w) : fx_put h q b w = h := by
  unfold mm_getf at hg
  dsimp only at hg
  split at hg
  · next o ho =>
    rcases mm_bif hg with ⟨-, hg⟩ | ⟨-, hg⟩
    · unfold fx_put
      rw [ho]
      dsimp only
      obtain ⟨h1, h2⟩ := List.getElem?_eq_some_iff.mp hg
      rw [← h2, List.set_getElem_self]
      obtain ⟨h3, h4⟩ := List.getElem?_eq_some_iff.mp ho
      rw [← h4, List.set_getElem_self]
    · cases hg
  · cases hg
theorem mm_iald_put {O : mm_Old} {h : mm_Heap} {q : Nat} {i x : Int32} (hg : mm_iald O h (.ref q) i = some x) : fx_put h q i.toNatClampNeg (.int x) = h := by
  unfold mm_iald at hg
  dsimp only at hg
  split at hg
  · next ys ho =>
    rcases mm_bif hg with ⟨hc, hg⟩ | ⟨-, hg⟩
    · unfold fx_put
      rw [ho]
      dsimp only
      have hl := mm_in_lt hc
      have h2 : ys.set i.toNatClampNeg (fx_i32 (.int x)) = ys := by
        have : fx_i32 (.int x) = ys[i.toNatClampNeg] := by
          cases hg
          show ys.getD i.toNatClampNeg 0 = _
          rw [List.getD_eq_getElem?_getD, List.getElem?_eq_getElem hl]
          rfl
        rw [this, List.set_getElem_self]
      rw [h2]
      obtain ⟨h3, h4⟩ := List.getElem?_eq_some_iff.mp ho
      rw [← h4, List.set_getElem_self]
    · cases hg
  · cases hg
theorem mm_rcv_put {O : mm_Old} {h : mm_Heap} {k own q i : Nat} {w : Value} (hr : mm_rcv O h (.ref k) own = true) : mm_rcv O (fx_put h q i w) (.ref k) own = true := by
  unfold mm_rcv at hr ⊢
  dsimp only at hr ⊢
  split at hr
  · next o ho =>
    by_cases hk : q = k
    · subst hk
      unfold fx_put
      rw [ho]
      dsimp only
      rw [List.getElem?_set_self (List.getElem?_eq_some_iff.mp ho).1]
      exact hr
    · rw [fx_put_ne hk, ho]
      exact hr
  · cases hr
