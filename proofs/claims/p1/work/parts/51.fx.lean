/-! the heap of a symbolic run: a fixed heap B, and what was written since -/
def fx_put (h : mm_Heap) (k i : Nat) (v : Value) : mm_Heap := match h[k]? with
  | some (.inl o) => h.set k (.inl (o.1, o.2.set i v))
  | some (.inr (.inl a)) => h.set k (.inr (.inl (a.1, a.2.set i (fx_i32 v))))
  | _ => h
def fx_evh (B : mm_Heap) (p : Nat → Int32) : fx_U → mm_Heap
  | [] => B
  | u :: U => fx_put (fx_evh B p U) u.1.1 u.1.2 (fx_ev p u.2)
def fx_find (U : fx_U) (k i : Nat) : Option fx_V := match U with
  | [] => none
  | u :: U => bif Nat.beq u.1.1 k && Nat.beq u.1.2 i then some u.2 else fx_find U k i
theorem fx_put_ne {h : mm_Heap} {k j i : Nat} {v : Value} (hk : ¬ j = k) : (fx_put h j i v)[k]? = h[k]? := by
  unfold fx_put
  split
  · rw [List.getElem?_set_ne hk]
  · rw [List.getElem?_set_ne hk]
  · rfl
theorem fx_obj {B : mm_Heap} {p : Nat → Int32} {k : Nat} {o : Nat × List Value} (hB : B[k]? = some (.inl o)) : ∀ U : fx_U,
    ∃ fs, (fx_evh B p U)[k]? = some (.inl (o.1, fs)) ∧ fs.length = o.2.length ∧ ∀ i, i < o.2.length → fs[i]? = (match fx_find U k i with
      | some v => some (fx_ev p v)
      | none => o.2[i]?) := by
  intro U
  induction U with
  | nil => exact ⟨o.2, hB, rfl, fun _ _ => rfl⟩
  | cons u U ih =>
    obtain ⟨fs, h1, h2, h3⟩ := ih
    by_cases hk : u.1.1 = k
    · refine ⟨fs.set u.1.2 (fx_ev p u.2), ?_, by rw [List.length_set, h2], fun i hi => ?_⟩
      · show (fx_put (fx_evh B p U) u.1.1 u.1.2 (fx_ev p u.2))[k]? = _
        unfold fx_put
        rw [hk, h1]
        dsimp only
        rw [List.getElem?_set_self (List.getElem?_eq_some_iff.mp h1).1]
      · have hb : Nat.beq u.1.1 k = true := by rw [hk]; exact Nat.beq_refl k
        show _ = (match (bif Nat.beq u.1.1 k && Nat.beq u.1.2 i then some u.2 else fx_find U k i) with
          | some v => some (fx_ev p v)
          | none => o.2[i]?)
        rw [hb]
        by_cases hi2 : u.1.2 = i
        · rw [hi2, Nat.beq_refl]
          rw [List.getElem?_set_self (by omega)]
          rfl
        · have : Nat.beq u.1.2 i = false := by
            cases hz : Nat.beq u.1.2 i with
            | false => rfl
            | true => exact absurd (Nat.eq_of_beq_eq_true hz) hi2
          rw [this, List.getElem?_set_ne hi2]
          exact h3 i hi
    · refine ⟨fs, ?_, h2, fun i hi => ?_⟩
      · show (fx_put (fx_evh B p U) u.1.1 u.1.2 (fx_ev p u.2))[k]? = _
        rw [fx_put_ne hk]
        exact h1
      · have hb : Nat.beq u.1.1 k = false := by
          cases hz : Nat.beq u.1.1 k with
          | false => rfl
          | true => exact absurd (Nat.eq_of_beq_eq_true hz) hk
        show _ = (match (bif Nat.beq u.1.1 k && Nat.beq u.1.2 i then some u.2 else fx_find U k i) with
          | some v => some (fx_ev p v)
          | none => o.2[i]?)
        rw [hb]
        exact h3 i hi
theorem fx_arr {B : mm_Heap} {p : Nat → Int32} {k : Nat} {o : ArrayType × List Int32} (hB : B[k]? = some (.inr (.inl o))) : ∀ U : fx_U,
    ∃ fs, (fx_evh B p U)[k]? = some (.inr (.inl (o.1, fs))) ∧ fs.length = o.2.length ∧ ∀ i, i < o.2.length → fs[i]? = (match fx_find U k i with
      | some v => some (fx_i32 (fx_ev p v))
      | none => o.2[i]?) := by
  intro U
  induction U with
  | nil => exact ⟨o.2, hB, rfl, fun _ _ => rfl⟩
  | cons u U ih =>
    obtain ⟨fs, h1, h2, h3⟩ := ih
    by_cases hk : u.1.1 = k
    · refine ⟨fs.set u.1.2 (fx_i32 (fx_ev p u.2)), ?_, by rw [List.length_set, h2], fun i hi => ?_⟩
      · show (fx_put (fx_evh B p U) u.1.1 u.1.2 (fx_ev p u.2))[k]? = _
        unfold fx_put
        rw [hk, h1]
        dsimp only
        rw [List.getElem?_set_self (List.getElem?_eq_some_iff.mp h1).1]
      · have hb : Nat.beq u.1.1 k = true := by rw [hk]; exact Nat.beq_refl k
        show _ = (match (bif Nat.beq u.1.1 k && Nat.beq u.1.2 i then some u.2 else fx_find U k i) with
          | some v => some (fx_i32 (fx_ev p v))
          | none => o.2[i]?)
        rw [hb]
        by_cases hi2 : u.1.2 = i
        · rw [hi2, Nat.beq_refl]
          rw [List.getElem?_set_self (by omega)]
          rfl
        · have : Nat.beq u.1.2 i = false := by
            cases hz : Nat.beq u.1.2 i with
            | false => rfl
            | true => exact absurd (Nat.eq_of_beq_eq_true hz) hi2
          rw [this, List.getElem?_set_ne hi2]
          exact h3 i hi
    · refine ⟨fs, ?_, h2, fun i hi => ?_⟩
      · show (fx_put (fx_evh B p U) u.1.1 u.1.2 (fx_ev p u.2))[k]? = _
        rw [fx_put_ne hk]
        exact h1
      · have hb : Nat.beq u.1.1 k = false := by
          cases hz : Nat.beq u.1.1 k with
          | false => rfl
          | true => exact absurd (Nat.eq_of_beq_eq_true hz) hk
        show _ = (match (bif Nat.beq u.1.1 k && Nat.beq u.1.2 i then some u.2 else fx_find U k i) with
          | some v => some (fx_i32 (fx_ev p v))
          | none => o.2[i]?)
        rw [hb]
        exact h3 i hi
/-- the heap's cells keep their kinds and sizes -/
theorem fx_evh_len (B : mm_Heap) (p : Nat → Int32) : ∀ U : fx_U, (fx_evh B p U).length = B.length ∧ mm_sz (fx_evh B p U) = mm_sz B := by
  have hput : ∀ (h : mm_Heap) (k i : Nat) (v : Value), (fx_put h k i v).length = h.length ∧ mm_sz (fx_put h k i v) = mm_sz h := by
    intro h k i v
    unfold fx_put
    split
    · next o ho => exact ⟨List.length_set, mm_sz_set ho (by simp [mm_sz1])⟩
    · next a ha => exact ⟨List.length_set, mm_sz_set ha (by simp [mm_sz1])⟩
    · exact ⟨rfl, rfl⟩
  intro U
  induction U with
  | nil => exact ⟨rfl, rfl⟩
  | cons u U ih =>
    obtain ⟨h1, h2⟩ := hput (fx_evh B p U) u.1.1 u.1.2 (fx_ev p u.2)
    exact ⟨h1.trans ih.1, h2.trans ih.2⟩
