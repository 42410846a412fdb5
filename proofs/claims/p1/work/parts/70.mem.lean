/-! MEMORY: the heap by its shape (the fresh heap's) and its contents: ints, longs, references that may change -/
abbrev hq_S : Type := (Nat → Nat → Int32) × (Nat → Nat → Int64) × (Nat → Nat → Nat)
def hq_gi (s : hq_S) (k i : Nat) : Int32 := s.1 k i
def hq_gj (s : hq_S) (k i : Nat) : Int64 := s.2.1 k i
def hq_gr (s : hq_S) (k i : Nat) : Nat := s.2.2 k i
def hq_si (s : hq_S) (k i : Nat) (x : Int32) : hq_S := (fun k' i' => if k' = k ∧ i' = i then x else s.1 k' i', s.2)
def hq_sj (s : hq_S) (k i : Nat) (x : Int64) : hq_S := (s.1, fun k' i' => if k' = k ∧ i' = i then x else s.2.1 k' i', s.2.2)
def hq_sr (s : hq_S) (k i x : Nat) : hq_S := (s.1, s.2.1, fun k' i' => if k' = k ∧ i' = i then x else s.2.2 k' i')
/-- the references that change: the class's town and spare, the reader's town, the tokens' bytes, the hours' town, streets, night -/
def hq_mut (k b : Nat) : Bool := (Nat.beq k 0 && (Nat.beq b 2 || Nat.beq b 3)) || ((Nat.beq k 48 && Nat.beq b 1) || ((Nat.beq k 49 && Nat.beq b 1) || (Nat.beq k 113 && Nat.blt b 3)))
def hq_fld (s : hq_S) (k b : Nat) (v : Value) : Value := match v with
  | .int _ => .int (hq_gi s k b)
  | .long _ => .long (hq_gj s k b)
  | .ref r => .ref (bif hq_mut k b then hq_gr s k b else r)
  | v => v
def hq_cell (s : hq_S) (k : Nat) (c : mm_Cell) : mm_Cell := match c with
  | .inl o => .inl (o.1, o.2.mapIdx fun b v => hq_fld s k b v)
  | .inr (.inl a) => .inr (.inl (a.1, (List.range a.2.length).map (hq_gi s k)))
  | .inr (.inr a) => .inr (.inr ((List.range a.length).map (hq_gj s k)))
def hq_hp (s : hq_S) : mm_Heap := fb_B.mapIdx fun k c => hq_cell s k c
theorem hq_at {s : hq_S} {k : Nat} {c : mm_Cell} (h : fb_L k = some c) : (hq_hp s)[k]? = some (hq_cell s k c) := by
  unfold hq_hp
  rw [List.getElem?_mapIdx, fb_okL k c h]
  rfl
theorem hq_lenB {k : Nat} {c : mm_Cell} (h : fb_L k = some c) : k < fb_B.length := (List.getElem?_eq_some_iff.mp (fb_okL k c h)).1
/-- a heap but for one cell -/
theorem hq_set {s t : hq_S} {k : Nat} {c c' : mm_Cell} (h : fb_L k = some c) (hc : hq_cell t k c = c') (ho : ∀ j e, ¬ j = k → hq_cell t j e = hq_cell s j e) : (hq_hp s).set k c' = hq_hp t := by
  apply List.ext_getElem?
  intro j
  rw [List.getElem?_set]
  by_cases hj : k = j
  · subst hj
    rw [if_pos rfl, if_pos (by unfold hq_hp; rw [List.length_mapIdx]; exact hq_lenB h), hq_at h, hc]
  · rw [if_neg hj]
    unfold hq_hp
    rw [List.getElem?_mapIdx, List.getElem?_mapIdx]
    cases fb_B[j]? with
    | none => rfl
    | some e => exact congrArg some (ho j e fun q => hj q.symm).symm
theorem hq_fld_si {s : hq_S} {k i j b : Nat} {x : Int32} {v : Value} (h : ¬ (j = k ∧ b = i)) : hq_fld (hq_si s k i x) j b v = hq_fld s j b v := by
  cases v <;> simp only [hq_fld, hq_gi, hq_gj, hq_gr, hq_si] <;> (try rw [if_neg h])
theorem hq_fld_sj {s : hq_S} {k i j b : Nat} {x : Int64} {v : Value} (h : ¬ (j = k ∧ b = i)) : hq_fld (hq_sj s k i x) j b v = hq_fld s j b v := by
  cases v <;> simp only [hq_fld, hq_gi, hq_gj, hq_gr, hq_sj] <;> (try rw [if_neg h])
theorem hq_fld_sr {s : hq_S} {k i j b : Nat} {x : Nat} {v : Value} (h : ¬ (j = k ∧ b = i)) : hq_fld (hq_sr s k i x) j b v = hq_fld s j b v := by
  cases v <;> simp only [hq_fld, hq_gi, hq_gj, hq_gr, hq_sr] <;> (try rw [if_neg h])
theorem hq_cell_si {s : hq_S} {k i j : Nat} {x : Int32} {e : mm_Cell} (h : ¬ j = k) : hq_cell (hq_si s k i x) j e = hq_cell s j e := by
  rcases e with o | o | o
  · simp only [hq_cell]
    rw [show (fun b v => hq_fld (hq_si s k i x) j b v) = fun b v => hq_fld s j b v from funext fun b => funext fun v => hq_fld_si fun q => h q.1]
  · simp only [hq_cell]
    rw [show hq_gi (hq_si s k i x) j = hq_gi s j from funext fun b => if_neg fun q => h q.1]
  · rfl
theorem hq_cell_sj {s : hq_S} {k i j : Nat} {x : Int64} {e : mm_Cell} (h : ¬ j = k) : hq_cell (hq_sj s k i x) j e = hq_cell s j e := by
  rcases e with o | o | o
  · simp only [hq_cell]
    rw [show (fun b v => hq_fld (hq_sj s k i x) j b v) = fun b v => hq_fld s j b v from funext fun b => funext fun v => hq_fld_sj fun q => h q.1]
  · rfl
  · simp only [hq_cell]
    rw [show hq_gj (hq_sj s k i x) j = hq_gj s j from funext fun b => if_neg fun q => h q.1]
theorem hq_cell_sr {s : hq_S} {k i j : Nat} {x : Nat} {e : mm_Cell} (h : ¬ j = k) : hq_cell (hq_sr s k i x) j e = hq_cell s j e := by
  rcases e with o | o | o
  · simp only [hq_cell]
    rw [show (fun b v => hq_fld (hq_sr s k i x) j b v) = fun b v => hq_fld s j b v from funext fun b => funext fun v => hq_fld_sr fun q => h q.1]
  · rfl
  · rfl
theorem hq_mapIdx_set {s t : hq_S} {k b : Nat} {fs : List Value} {y : Value} (hs : ∀ j v, ¬ j = b → hq_fld t k j v = hq_fld s k j v) (hy : ∀ v, fs[b]? = some v → hq_fld t k b v = y) : fs.mapIdx (fun j v => hq_fld t k j v) = (fs.mapIdx fun j v => hq_fld s k j v).set b y := by
  apply List.ext_getElem?
  intro j
  rw [List.getElem?_set, List.getElem?_mapIdx, List.getElem?_mapIdx, List.length_mapIdx]
  by_cases hj : b = j
  · subst hj
    rw [if_pos rfl]
    by_cases hl : b < fs.length
    · rw [if_pos hl, List.getElem?_eq_getElem hl]
      exact congrArg some (hy _ (List.getElem?_eq_getElem hl))
    · rw [if_neg hl, List.getElem?_eq_none (by omega)]
      rfl
  · rw [if_neg hj]
    cases fs[j]? with
    | none => rfl
    | some v => exact congrArg some (hs j v fun q => hj q.symm)
theorem hq_map_set {α : Type} {n i : Nat} {f f' : Nat → α} {x : α} (hi : f' i = x) (hn : ∀ j, ¬ j = i → f' j = f j) : (List.range n).map f' = ((List.range n).map f).set i x := by
  apply List.ext_getElem?
  intro j
  rw [List.getElem?_set, List.getElem?_map, List.getElem?_map, List.length_map, List.length_range]
  by_cases hj : i = j
  · subst hj
    rw [if_pos rfl]
    by_cases hl : i < n
    · rw [if_pos hl, List.getElem?_range hl]
      exact congrArg some hi
    · rw [if_neg hl, List.getElem?_eq_none (by rw [List.length_range]; omega)]
      rfl
  · rw [if_neg hj]
    by_cases hl : j < n
    · rw [List.getElem?_range hl]
      exact congrArg some (hn j fun q => hj q.symm)
    · rw [List.getElem?_eq_none (by rw [List.length_range]; omega)]
      rfl
/-! loads and stores -/
def hq_ld (s : hq_S) (k L : Nat) (i : Int32) : Option Int32 := bif mm_in i L then some (hq_gi s k i.toNatClampNeg) else none
def hq_ldj (s : hq_S) (k L : Nat) (i : Int32) : Option Int64 := bif mm_in i L then some (hq_gj s k i.toNatClampNeg) else none
def hq_st (s : hq_S) (k L : Nat) (i x : Int32) : Option hq_S := bif mm_in i L then some (hq_si s k i.toNatClampNeg x) else none
def hq_stj (s : hq_S) (k L : Nat) (i : Int32) (x : Int64) : Option hq_S := bif mm_in i L then some (hq_sj s k i.toNatClampNeg x) else none
theorem hq_getD {α : Type} {n i : Nat} {f : Nat → α} {d : α} (h : i < n) : ((List.range n).map f).getD i d = f i := by
  rw [List.getD_eq_getElem?_getD, List.getElem?_map, List.getElem?_range h]
  rfl
theorem hq_getf {s : hq_S} {O : mm_Old} {k a b : Nat} {o : Nat × List Value} {v : Value} (h : fb_L k = some (.inl o)) (ha : o.1 = a) (hb : o.2[b]? = some v) : mm_getf O (hq_hp s) (.ref k) a b = some (hq_fld s k b v) := by
  unfold mm_getf
  dsimp only
  rw [hq_at h]
  simp only [hq_cell]
  rw [ha, Nat.beq_refl, cond_true, List.getElem?_mapIdx, hb]
  rfl
theorem hq_iald {s : hq_S} {O : mm_Old} {k L : Nat} {xs : List Int32} {i : Int32} (h : fb_L k = some (.inr (.inl (.int, xs)))) (hl : xs.length = L) : mm_iald O (hq_hp s) (.ref k) i = hq_ld s k L i := by
  unfold mm_iald hq_ld
  dsimp only
  rw [hq_at h]
  simp only [hq_cell]
  rw [List.length_map, List.length_range, hl]
  cases hc : mm_in i L with
  | false => rfl
  | true => rw [cond_true, cond_true, hq_getD (mm_in_lt hc)]
theorem hq_bald {s : hq_S} {O : mm_Old} {k L : Nat} {ty : ArrayType} {xs : List Int32} {i : Int32} (h : fb_L k = some (.inr (.inl (ty, xs)))) (ht : ty = .byte ∨ ty = .boolean) (hl : xs.length = L) : mm_bald O (hq_hp s) (.ref k) i = hq_ld s k L i := by
  unfold mm_bald hq_ld
  dsimp only
  rw [hq_at h]
  rcases ht with rfl | rfl
  · simp only [hq_cell]
    rw [List.length_map, List.length_range, hl]
    cases hc : mm_in i L with
    | false => rfl
    | true => rw [cond_true, cond_true, hq_getD (mm_in_lt hc)]
  · simp only [hq_cell]
    rw [List.length_map, List.length_range, hl]
    cases hc : mm_in i L with
    | false => rfl
    | true => rw [cond_true, cond_true, hq_getD (mm_in_lt hc)]
theorem hq_lald {s : hq_S} {k L : Nat} {xs : List Int64} {i : Int32} (h : fb_L k = some (.inr (.inr xs))) (hl : xs.length = L) : mm_lald (hq_hp s) (.ref k) i = hq_ldj s k L i := by
  unfold mm_lald hq_ldj
  dsimp only
  rw [hq_at h]
  simp only [hq_cell]
  rw [List.length_map, List.length_range, hl]
  cases hc : mm_in i L with
  | false => rfl
  | true => rw [cond_true, cond_true, hq_getD (mm_in_lt hc)]
theorem hq_arr_set {s : hq_S} {k i : Nat} {x : Int32} {ty : ArrayType} {xs : List Int32} (h : fb_L k = some (.inr (.inl (ty, xs)))) : (hq_hp s).set k (.inr (.inl (ty, ((List.range xs.length).map (hq_gi s k)).set i x))) = hq_hp (hq_si s k i x) := by
  refine hq_set h ?_ fun j e hj => hq_cell_si hj
  simp only [hq_cell]
  rw [hq_map_set (f := hq_gi s k) (i := i) (x := x)]
  · exact if_pos ⟨rfl, rfl⟩
  · intro j hj
    exact if_neg fun q => hj q.2
theorem hq_iast {s : hq_S} {k L : Nat} {xs : List Int32} {i x : Int32} (h : fb_L k = some (.inr (.inl (.int, xs)))) (hl : xs.length = L) : mm_iast (hq_hp s) (.ref k) i x = (hq_st s k L i x).map hq_hp := by
  unfold mm_iast hq_st
  dsimp only
  rw [hq_at h]
  simp only [hq_cell]
  rw [List.length_map, List.length_range, hl]
  cases hc : mm_in i L with
  | false => rfl
  | true =>
    rw [cond_true, cond_true, ← hl, hq_arr_set h]
    rfl
def hq_nar (ty : ArrayType) (x : Int32) : Int32 := match ty with
  | .byte => vp_nar .byte x
  | .boolean => vp_nar .boolean x
  | _ => x
theorem hq_bast {s : hq_S} {k L : Nat} {ty : ArrayType} {xs : List Int32} {i x : Int32} (h : fb_L k = some (.inr (.inl (ty, xs)))) (ht : ty = .byte ∨ ty = .boolean) (hl : xs.length = L) : mm_bast (hq_hp s) (.ref k) i x = (hq_st s k L i (hq_nar ty x)).map hq_hp := by
  unfold mm_bast hq_st
  dsimp only
  rw [hq_at h]
  rcases ht with rfl | rfl
  · simp only [hq_cell]
    rw [List.length_map, List.length_range, hl]
    cases hc : mm_in i L with
    | false => rfl
    | true =>
      rw [cond_true, cond_true, ← hl, hq_arr_set h]
      simp only [hq_nar, Option.map_some]
  · simp only [hq_cell]
    rw [List.length_map, List.length_range, hl]
    cases hc : mm_in i L with
    | false => rfl
    | true =>
      rw [cond_true, cond_true, ← hl, hq_arr_set h]
      simp only [hq_nar, Option.map_some]
theorem hq_last {s : hq_S} {k L : Nat} {xs : List Int64} {i : Int32} {x : Int64} (h : fb_L k = some (.inr (.inr xs))) (hl : xs.length = L) : mm_last (hq_hp s) (.ref k) i x = (hq_stj s k L i x).map hq_hp := by
  unfold mm_last hq_stj
  dsimp only
  rw [hq_at h]
  simp only [hq_cell]
  rw [List.length_map, List.length_range, hl]
  cases hc : mm_in i L with
  | false => rfl
  | true =>
    rw [cond_true, cond_true]
    refine congrArg some (hq_set h ?_ fun j e hj => hq_cell_sj hj)
    simp only [hq_cell]
    rw [hl, hq_map_set (f := hq_gj s k) (i := i.toNatClampNeg) (x := x)]
    · exact if_pos ⟨rfl, rfl⟩
    · intro j hj
      exact if_neg fun q => hj q.2
theorem hq_putf_i {s : hq_S} {k a b c : Nat} {o : Nat × List Value} {y x : Int32} (h : fb_L k = some (.inl o)) (ha : o.1 = a) (hb : o.2[b]? = some (.int y)) (hf : mm_fit (c % 8) (.int x) = true) : mm_putf (hq_hp s) (.ref k) a b c (.int x) = some (hq_hp (hq_si s k b x)) := by
  unfold mm_putf
  dsimp only
  rw [hq_at h]
  simp only [hq_cell]
  have hl : b < o.2.length := (List.getElem?_eq_some_iff.mp hb).1
  rw [ha, Nat.beq_refl, hf, List.length_mapIdx, show Nat.blt b o.2.length = true from by simpa [Nat.blt_eq] using hl]
  refine congrArg some (hq_set h ?_ fun j e hj => hq_cell_si hj)
  simp only [hq_cell]
  rw [ha, hq_mapIdx_set (s := s) (t := hq_si s k b x) (b := b) (y := .int x)]
  · intro j v hj
    exact hq_fld_si fun q => hj q.2
  · intro v hv
    rw [hb] at hv
    cases hv
    exact congrArg Value.int (if_pos ⟨rfl, rfl⟩)
theorem hq_putf_j {s : hq_S} {k a b c : Nat} {o : Nat × List Value} {y x : Int64} (h : fb_L k = some (.inl o)) (ha : o.1 = a) (hb : o.2[b]? = some (.long y)) (hf : mm_fit (c % 8) (.long x) = true) : mm_putf (hq_hp s) (.ref k) a b c (.long x) = some (hq_hp (hq_sj s k b x)) := by
  unfold mm_putf
  dsimp only
  rw [hq_at h]
  simp only [hq_cell]
  have hl : b < o.2.length := (List.getElem?_eq_some_iff.mp hb).1
  rw [ha, Nat.beq_refl, hf, List.length_mapIdx, show Nat.blt b o.2.length = true from by simpa [Nat.blt_eq] using hl]
  refine congrArg some (hq_set h ?_ fun j e hj => hq_cell_sj hj)
  simp only [hq_cell]
  rw [ha, hq_mapIdx_set (s := s) (t := hq_sj s k b x) (b := b) (y := .long x)]
  · intro j v hj
    exact hq_fld_sj fun q => hj q.2
  · intro v hv
    rw [hb] at hv
    cases hv
    exact congrArg Value.long (if_pos ⟨rfl, rfl⟩)
theorem hq_putf_r {s : hq_S} {k a b c : Nat} {o : Nat × List Value} {y x : Nat} (h : fb_L k = some (.inl o)) (ha : o.1 = a) (hb : o.2[b]? = some (.ref y)) (hm : hq_mut k b = true) (hf : mm_fit (c % 8) (.ref x) = true) : mm_putf (hq_hp s) (.ref k) a b c (.ref x) = some (hq_hp (hq_sr s k b x)) := by
  unfold mm_putf
  dsimp only
  rw [hq_at h]
  simp only [hq_cell]
  have hl : b < o.2.length := (List.getElem?_eq_some_iff.mp hb).1
  rw [ha, Nat.beq_refl, hf, List.length_mapIdx, show Nat.blt b o.2.length = true from by simpa [Nat.blt_eq] using hl]
  refine congrArg some (hq_set h ?_ fun j e hj => hq_cell_sr hj)
  simp only [hq_cell]
  rw [ha, hq_mapIdx_set (s := s) (t := hq_sr s k b x) (b := b) (y := .ref x)]
  · intro j v hj
    exact hq_fld_sr fun q => hj q.2
  · intro v hv
    rw [hb] at hv
    cases hv
    show Value.ref (bif hq_mut k b then hq_gr (hq_sr s k b x) k b else y) = _
    rw [hm, cond_true]
    exact congrArg Value.ref (if_pos ⟨rfl, rfl⟩)
theorem hq_len {s : hq_S} {O : mm_Old} {k L : Nat} {ty : ArrayType} {xs : List Int32} (h : fb_L k = some (.inr (.inl (ty, xs)))) (ht : mm_tag ty = true) (hl : xs.length = L) : mm_len O (hq_hp s) (.ref k) = some (Int32.ofNat L) := by
  unfold mm_len
  dsimp only
  rw [hq_at h]
  simp only [hq_cell]
  rw [ht, cond_true, List.length_map, List.length_range, hl]
theorem hq_lenj {s : hq_S} {O : mm_Old} {k L : Nat} {xs : List Int64} (h : fb_L k = some (.inr (.inr xs))) (hl : xs.length = L) : mm_len O (hq_hp s) (.ref k) = some (Int32.ofNat L) := by
  unfold mm_len
  dsimp only
  rw [hq_at h]
  simp only [hq_cell]
  rw [List.length_map, List.length_range, hl]
theorem hq_rcv {s : hq_S} {O : mm_Old} {k own : Nat} {o : Nat × List Value} (h : fb_L k = some (.inl o)) (ha : o.1 = own) : mm_rcv O (hq_hp s) (.ref k) own = true := by
  unfold mm_rcv
  dsimp only
  rw [hq_at h]
  simp only [hq_cell]
  rw [ha, Nat.beq_refl]
