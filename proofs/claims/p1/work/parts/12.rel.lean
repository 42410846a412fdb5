/-! THE PICTURE: how a mini heap stands in the machine's heap -/
/-- an object of which only 'a reference or null' is known -/
def mm_sf (q : Nat) : Value := match q with
  | 0 => .null
  | a + 1 => .ref a
def mm_lv (N0 : Nat) (od : Nat → Nat) (v : Value) : Value := match v with
  | .ref k => .ref (N0 + k)
  | .retAddr n => .ref (od n)
  | .int x => .int x
  | .long x => .long x
  | .float _ => mm_sf (od 500)
  | .double x => .double x
  | .null => .null
def mm_lc (N0 : Nat) (od : Nat → Nat) (cy : ArrayType → ClassId) (c : mm_Cell) : va_E := match c with
  | .inl o => .inr (o.1, o.2.map (mm_lv N0 od))
  | .inr (.inl a) => .inl (cy a.1, a.2.length, .inl (fun j => a.2.getD j 0))
  | .inr (.inr xs) => .inl (cy .long, xs.length, .inr (.inl (fun j => xs.getD j 0)))
def mm_ws (N0 : Nat) (od : Nat → Nat) (cy : ArrayType → ClassId) (h : mm_Heap) : va_W := h.mapIdx fun k c => (N0 + k, mm_lc N0 od cy c)
def mm_T0 : u_T := fun _ => ("", "", "", false)
def mm_Cl : List vw_C := vwCl ++ [("java/lang/IndexOutOfBoundsException", mm_T0, 0), ("java/util/NoSuchElementException", mm_T0, 0)]
/-- a mini heap in the machine's heap -/
abbrev mm_Pic (N0 : Nat) (od : Nat → Nat) (cy : ArrayType → ClassId) (D : va_G) (h : mm_Heap) (H : Heap) : Prop := va_P D mm_Cl (mm_ws N0 od cy h) H
def mm_A (N0 : Nat) : Nat → Prop := fun q => N0 ≤ q
/-- the room that a cell takes -/
def mm_sz1 (c : mm_Cell) : Nat := match c with
  | .inl o => bif Nat.blt o.1 13 then o.2.length else 8
  | .inr (.inl a) => a.2.length
  | .inr (.inr xs) => xs.length
def mm_sz (h : mm_Heap) : Nat := (h.map mm_sz1).sum
def mm_tys (cy : ArrayType → ClassId) : List (ClassId × FieldType) := [(cy .int, .int), (cy .long, .long), (cy .byte, .byte), (cy .boolean, .boolean)]
theorem mm_lv_cat (N0 : Nat) (od : Nat → Nat) (v : Value) : (mm_lv N0 od v).category = v.category := by
  cases v <;> first | rfl | skip
  show (mm_sf (od 500)).category = 1
  cases od 500 <;> rfl
theorem mm_ws_get {N0 : Nat} {od : Nat → Nat} {cy : ArrayType → ClassId} {h : mm_Heap} {k : Nat} {c : mm_Cell} (hk : h[k]? = some c) : (mm_ws N0 od cy h)[k]? = some (N0 + k, mm_lc N0 od cy c) := by
  simp [mm_ws, List.getElem?_mapIdx, hk]
theorem mm_ws_set {N0 : Nat} {od : Nat → Nat} {cy : ArrayType → ClassId} {h : mm_Heap} {k : Nat} {c : mm_Cell} : (mm_ws N0 od cy h).set k (N0 + k, mm_lc N0 od cy c) = mm_ws N0 od cy (h.set k c) := by
  apply List.ext_getElem?
  intro i
  simp only [mm_ws, List.getElem?_mapIdx, List.getElem?_set, List.length_mapIdx]
  by_cases hi : k = i
  · subst hi
    by_cases hl : k < h.length <;> simp [hl]
  · simp [hi]
theorem mm_ws_push {N0 : Nat} {od : Nat → Nat} {cy : ArrayType → ClassId} {h : mm_Heap} {c : mm_Cell} : mm_ws N0 od cy (h ++ [c]) = mm_ws N0 od cy h ++ [(N0 + h.length, mm_lc N0 od cy c)] := by
  simp [mm_ws, List.mapIdx_append]
theorem mm_D {N0 : Nat} {od : Nat → Nat} {cy : ArrayType → ClassId} (h : mm_Heap) : va_D (mm_A N0) (mm_ws N0 od cy h) := by
  refine ⟨fun i j p q hp hq he => ?_, fun k q hk => ?_⟩
  · simp only [mm_ws, List.getElem?_mapIdx, Option.map_eq_some_iff] at hp hq
    obtain ⟨a, -, rfl⟩ := hp
    obtain ⟨b, -, rfl⟩ := hq
    have : N0 + i = N0 + j := he
    omega
  · simp only [mm_ws, List.getElem?_mapIdx, Option.map_eq_some_iff] at hk
    obtain ⟨a, -, rfl⟩ := hk
    exact Nat.le_add_right _ _
theorem mm_sz_set {h : mm_Heap} {k : Nat} {c c' : mm_Cell} (hk : h[k]? = some c) (hc : mm_sz1 c' = mm_sz1 c) : mm_sz (h.set k c') = mm_sz h := by
  unfold mm_sz
  congr 1
  apply List.ext_getElem?
  intro i
  simp only [List.getElem?_map, List.getElem?_set]
  by_cases hi : k = i
  · subst hi
    have hl : k < h.length := (List.getElem?_eq_some_iff.mp hk).1
    have he : h[k] = c := (List.getElem?_eq_some_iff.mp hk).2
    simp [hl, hc, he]
  · simp [hi]
theorem mm_sz_push (h : mm_Heap) (c : mm_Cell) : mm_sz (h ++ [c]) = mm_sz h + mm_sz1 c := by simp [mm_sz]
/-- the locals -/
def mm_rel (N0 : Nat) (od : Nat → Nat) (nL : Nat) (r : mm_Loc) (ls : Array Slot) : Prop := r.length = nL ∧ ls.size = nL ∧ lv_wf ls ∧ ∀ (i : Nat) (v : Value), mm_get r i = some v → ls[i]? = some (.val (mm_lv N0 od v))
def mm_as (N0 : Nat) (od : Nat → Nat) (r : mm_Loc) : List (Nat × Value) := (List.range r.length).filterMap fun i => (mm_get r i).map fun v => (i, mm_lv N0 od v)
theorem mm_as_in {N0 : Nat} {od : Nat → Nat} {r : mm_Loc} {i : Nat} {v : Value} (h : mm_get r i = some v) : (i, mm_lv N0 od v) ∈ mm_as N0 od r := by
  have hl : i < r.length := by
    unfold mm_get at h
    split at h
    · next v0 hv => exact (List.getElem?_eq_some_iff.mp hv).1
    · cases h
  exact List.mem_filterMap.mpr ⟨i, List.mem_range.mpr hl, by simp [h]⟩
theorem mm_rel_has {N0 nL : Nat} {od : Nat → Nat} {r : mm_Loc} {ls : Array Slot} (h : mm_rel N0 od nL r ls) : lv_has ls nL (mm_as N0 od r) := by
  refine ⟨h.2.1, h.2.2.1, fun q hq => ?_⟩
  obtain ⟨i, -, hi⟩ := List.mem_filterMap.mp hq
  cases hg : mm_get r i with
  | none => simp [hg] at hi
  | some v =>
    simp [hg] at hi
    subst hi
    exact h.2.2.2 i v hg
theorem mm_get_kill {r : mm_Loc} {i j : Nat} {v : Value} (h : mm_get (mm_kill r i) j = some v) : mm_get r j = some v ∧ ¬ (j + 1 = i ∧ v.category = 2) := by
  unfold mm_kill at h
  cases i with
  | zero => exact ⟨h, fun q => by omega⟩
  | succ k =>
    simp only at h
    split at h
    · next x hx =>
      by_cases hj : j = k
      · subst hj
        exfalso
        have hl : j < r.length := (List.getElem?_eq_some_iff.mp hx).1
        simp [mm_get, hl] at h
      · refine ⟨?_, fun q => by omega⟩
        simpa [mm_get, List.getElem?_set, Ne.symm hj] using h
    · next x hx =>
      by_cases hj : j = k
      · subst hj
        exfalso
        have hl : j < r.length := (List.getElem?_eq_some_iff.mp hx).1
        simp [mm_get, hl] at h
      · refine ⟨?_, fun q => by omega⟩
        simpa [mm_get, List.getElem?_set, Ne.symm hj] using h
    · next h1 h2 =>
      refine ⟨h, fun q => ?_⟩
      obtain ⟨q1, q2⟩ := q
      have hjk : j = k := by omega
      subst hjk
      unfold mm_get at h
      split at h
      · next w hw =>
        subst h
        cases v with
        | long x => exact h1 x hw
        | double x => exact h2 x hw
        | _ => simp [Value.category] at q2
      · cases h
theorem mm_kill_len (r : mm_Loc) (i : Nat) : (mm_kill r i).length = r.length := by
  unfold mm_kill
  split
  · rfl
  · split <;> simp
theorem mm_rel_put1 {N0 nL i : Nat} {od : Nat → Nat} {r r' : mm_Loc} {ls ls' : Array Slot} {v : Value} (hr : mm_rel N0 od nL r ls) (hp : mm_put1 r i v = some r')
    (h : lv_has ls' nL ((i, mm_lv N0 od v) :: (mm_as N0 od r).filter (fun q => !(q.1 == i) && !(q.1 + 1 == i && q.2.category == 2)))) : mm_rel N0 od nL r' ls' := by
  unfold mm_put1 at hp
  cases hb : Nat.blt i r.length with
  | false => rw [hb] at hp; cases hp
  | true =>
    rw [hb] at hp
    cases hp
    refine ⟨by simp [mm_kill_len, hr.1], h.1, h.2.1, fun j w hj => ?_⟩
    by_cases hji : i = j
    · subst hji
      have hl : i < r.length := by simpa [Nat.blt_eq] using hb
      have hw : w = v := by simpa [mm_get, mm_kill_len, hl, eq_comm] using hj
      subst hw
      exact h.2.2 _ List.mem_cons_self
    · have hk : mm_get (mm_kill r i) j = some w := by simpa [mm_get, List.getElem?_set, hji] using hj
      obtain ⟨h1, h2⟩ := mm_get_kill hk
      refine h.2.2 (j, mm_lv N0 od w) (List.mem_cons_of_mem _ (List.mem_filter.mpr ⟨mm_as_in h1, ?_⟩))
      simp only [Bool.and_eq_true, Bool.not_eq_true', beq_eq_false_iff_ne, Bool.and_eq_false_iff, mm_lv_cat]
      refine ⟨fun q => hji q.symm, ?_⟩
      by_cases q1 : j + 1 = i
      · exact Or.inr (fun q2 => h2 ⟨q1, q2⟩)
      · exact Or.inl q1
theorem mm_rel_put2 {N0 nL i : Nat} {od : Nat → Nat} {r r' : mm_Loc} {ls ls' : Array Slot} {v : Value} (hr : mm_rel N0 od nL r ls) (hp : mm_put2 r i v = some r')
    (h : lv_has ls' nL ((i, mm_lv N0 od v) :: (mm_as N0 od r).filter (fun q => !(q.1 == i) && (!(q.1 == i + 1) && !(q.1 + 1 == i && q.2.category == 2))))) : mm_rel N0 od nL r' ls' := by
  unfold mm_put2 at hp
  cases hb : Nat.blt (i + 1) r.length with
  | false => rw [hb] at hp; cases hp
  | true =>
    rw [hb] at hp
    cases hp
    have hl : i + 1 < r.length := by simpa [Nat.blt_eq] using hb
    refine ⟨by simp [mm_kill_len, hr.1], h.1, h.2.1, fun j w hj => ?_⟩
    by_cases hj1 : i + 1 = j
    · subst hj1
      simp [mm_get, mm_kill_len, hl] at hj
    · have hj' : mm_get ((mm_kill r i).set i (some v)) j = some w := by simpa [mm_get, List.getElem?_set, hj1] using hj
      by_cases hji : i = j
      · subst hji
        have hl' : i < r.length := by omega
        have hw : w = v := by simpa [mm_get, mm_kill_len, hl', eq_comm] using hj'
        subst hw
        exact h.2.2 _ List.mem_cons_self
      · have hk : mm_get (mm_kill r i) j = some w := by simpa [mm_get, List.getElem?_set, hji] using hj'
        obtain ⟨h1, h2⟩ := mm_get_kill hk
        refine h.2.2 (j, mm_lv N0 od w) (List.mem_cons_of_mem _ (List.mem_filter.mpr ⟨mm_as_in h1, ?_⟩))
        simp only [Bool.and_eq_true, Bool.not_eq_true', beq_eq_false_iff_ne, Bool.and_eq_false_iff, mm_lv_cat]
        refine ⟨fun q => hji q.symm, fun q => hj1 q.symm, ?_⟩
        by_cases q1 : j + 1 = i
        · exact Or.inr (fun q2 => h2 ⟨q1, q2⟩)
        · exact Or.inl q1
theorem mm_rel_entry {N0 nL : Nat} {od : Nat → Nat} (vs : List Value) (h : (mm_sl vs).length ≤ nL) : mm_rel N0 od nL (mm_entry nL vs) ((lg_sl (vs.map (mm_lv N0 od)) ++ List.replicate (nL - (lg_sl (vs.map (mm_lv N0 od))).length) Slot.unset).toArray) := by
  have hlen : ∀ us : List Value, (lg_sl (us.map (mm_lv N0 od))).length = (mm_sl us).length := by
    intro us
    induction us with
    | nil => rfl
    | cons v us ih =>
      have e1 : lg_sl ((v :: us).map (mm_lv N0 od)) = (if v.category = 2 then [.val (mm_lv N0 od v), .second] else [.val (mm_lv N0 od v)]) ++ lg_sl (us.map (mm_lv N0 od)) := by
        simp [lg_sl, mm_lv_cat]
      have e2 : mm_sl (v :: us) = (bif Nat.beq v.category 2 then [some v, none] else [some v]) ++ mm_sl us := by simp [mm_sl]
      rw [e1, e2, List.length_append, List.length_append, ih]
      rcases lv_cat v with q | q <;> rw [q] <;> rfl
  have hargs : ∀ (us : List Value) (b i : Nat) (v : Value), mm_get (mm_sl us) i = some v → (b + i, mm_lv N0 od v) ∈ lv_args b (us.map (mm_lv N0 od)) := by
    intro us
    induction us with
    | nil => intro b i v h; simp [mm_sl, mm_get] at h
    | cons u us ih =>
      intro b i v h
      have e2 : mm_sl (u :: us) = (bif Nat.beq u.category 2 then [some u, none] else [some u]) ++ mm_sl us := by simp [mm_sl]
      rw [e2] at h
      show _ ∈ (b, mm_lv N0 od u) :: lv_args (if (mm_lv N0 od u).category = 2 then b + 2 else b + 1) (us.map (mm_lv N0 od))
      rw [mm_lv_cat]
      rcases lv_cat u with q | q
      · rw [q] at h
        have h' : mm_get ([some u] ++ mm_sl us) i = some v := h
        rw [if_neg (by omega)]
        cases i with
        | zero =>
          have : v = u := by simpa [mm_get, eq_comm] using h'
          subst this
          exact List.mem_cons_self
        | succ i =>
          have h2 : mm_get (mm_sl us) i = some v := by simpa [mm_get] using h'
          have := ih (b + 1) i v h2
          rw [show b + (i + 1) = b + 1 + i by omega]
          exact List.mem_cons_of_mem _ this
      · rw [q] at h
        have h' : mm_get ([some u, none] ++ mm_sl us) i = some v := h
        rw [if_pos q]
        match i, h' with
        | 0, h' =>
          have : v = u := by simpa [mm_get, eq_comm] using h'
          subst this
          exact List.mem_cons_self
        | 1, h' => simp [mm_get] at h'
        | i + 2, h' =>
          have h2 : mm_get (mm_sl us) i = some v := by simpa [mm_get] using h'
          have := ih (b + 2) i v h2
          rw [show b + (i + 2) = b + 2 + i by omega]
          exact List.mem_cons_of_mem _ this
  have E := lv_entry (vs.map (mm_lv N0 od)) (n := nL) (by rw [hlen]; exact h)
  refine ⟨by simp [mm_entry]; omega, E.1, E.2.1, fun i v hi => ?_⟩
  have h3 : mm_get (mm_sl vs) i = some v := by
    unfold mm_entry at hi
    unfold mm_get at hi ⊢
    rw [List.getElem?_append] at hi
    split at hi
    · next w hw =>
      split at hw
      · rw [hw]; exact hi
      · subst hi
        rw [List.getElem?_replicate] at hw
        split at hw <;> cases hw
    · cases hi
  have := hargs vs 0 i v h3
  rw [Nat.zero_add] at this
  exact E.2.2 _ this
