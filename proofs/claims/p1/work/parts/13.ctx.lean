/-! THE CONTEXT of a method's run, and what the linking must have checked of a row -/
def lw_g : List Cond := lw_tbl.filter goodWord
def mm_cnl : List String := [RX0, RX1, RX2, RX3, RX4, RX5, RX6, RX7, RX8, RX9, RX10, RX11, RX12, "java/lang/IndexOutOfBoundsException", "java/util/NoSuchElementException", RL, "", "", "", "", RJ0, RJ1, RJ9, RJ6, RJ7, RJ3]
def mm_cn (o : Nat) : String := mm_cnl.getD o ""
/-- the String constants: who names them, where, their text -/
def mm_strs : List (Nat × Nat × String) := [(9, 33, "cornerlane  steps guard beat  thief grip  seed  law   dread take  stir  "), (9, 39, "light far   loot  bold  had   guardshour  and   or    not   "), (11, 157, "no such corner"), (11, 180, "no such what"), (12, 239, "corner lane steps guard beat thief grip seed law dread take stir or and not light far loot bold had guards hour ")]
/-- what a throw needs -/
def mm_KX (N0 : Nat) (B0 : Heap) (U : State) : Prop :=
  (∀ C T : String, Cond.castable C T ∈ lw_tbl → va_Nw (.castable C T) U) ∧ (∀ x : MethodName, Cond.declares x ∈ lw_tbl → va_Nw (.declares x) U) ∧
  vx_Zq Bundle.tN "UNASSIGNED_STACK" Bundle.steD (mm_A N0) U B0 ∧ vx_Zq Bundle.tN "SUPPRESSED_SENTINEL" Bundle.listD (mm_A N0) U B0 ∧ va_Nc "java/util/NoSuchElementException" "java/lang/IndexOutOfBoundsException" U
/-- what is known of the tables and of the objects that were there before, at a state -/
def mm_K (N0 : Nat) (od : Nat → Nat) (cy : ArrayType → ClassId) (D : va_G) (B0 : Heap) (O : mm_Old) (U : State) : Prop :=
  va_K D mm_Cl (mm_tys cy) U ∧ (∀ (z : Int32) (xs : List Int32), O.1 = z :: xs → va_X (od 0) xs.length (fun j => xs.getD j 0) U B0 ∧ od 0 < N0) ∧
  vk_S O.2.1.length (O.2.1.map List.length) O.2.1 (fun i => od (i + 1)) (fun i => od (i + 101)) (mm_A N0) U B0 ∧
  (va_Z "java/lang/String" "COMPACT_STRINGS" "Z" (.int 1) (mm_A N0) U B0 ∧ va_Z "jdk/internal/util/Preconditions" "SIOOBE_FORMATTER" "Ljava/util/function/BiFunction;" (mm_sf (od 500)) (mm_A N0) U B0) ∧
  (∀ (j : Nat) (q : Nat × Nat × String), mm_strs[j]? = some q → vk_R (mm_cn q.1) q.2.1 q.2.2 (od (j + 1)) U) ∧
  (∀ (a : String) (i : Nat) (x : MethodName) (h : String), Cond.methodLinkNest a i x h ∈ lw_tbl → va_Nw (.methodLinkNest a i x h) U) ∧ mm_KX N0 B0 U
def mm_tc (c : Nat) (ty : FieldType) : Prop := match c with
  | 0 => ty = .int
  | 1 => ty = .boolean
  | 2 => ty = .byte
  | 3 => ty = .long
  | _ => (∃ n, ty = .object n) ∨ ∃ t, ty = .array t
/-- a field's row: own class, index of the pool, class, field, type number -/
def mm_okF (o idx a b c : Nat) : Prop := ∃ (C : String) (T : u_T) (N : Nat), vwCl[a]? = some (C, T, N) ∧ b < N ∧ Cond.fieldLink (mm_cn o) idx (T b).1 (T b).2.1 (T b).2.2.1 ∈ lw_g ∧ ∃ ty, parseFieldDescriptor (T b).2.2.1 = some ty ∧ mm_tc (c % 8) ty
def mm_okFin (M : mm_Meth) (a b : Nat) : Prop := ∀ (C : String) (T : u_T) (N : Nat), vwCl[a]? = some (C, T, N) → (T b).2.2.2 = true → (mm_name M).name = "<init>" ∧ (T b).1 = mm_cn (mm_own M)
def mm_strF (b : Nat) : String × String := if b = 0 then ("value", "[B") else ("coder", "B")
/-- what the linking has checked of an instruction that neither jumps nor calls nor ends -/
def mm_okStep (M : mm_Meth) (i : Instr) (a b c : Nat) : Prop := match i with
  | .getfield idx => (a ≠ 20 → mm_okF (mm_own M) idx a b c) ∧ (a = 20 → Cond.fieldLink (mm_cn (mm_own M)) idx "java/lang/String" (mm_strF b).1 (mm_strF b).2 ∈ lw_g)
  | .putfield idx => mm_okF (mm_own M) idx a b c ∧ mm_okFin M a b
  | .getstatic idx => (a = 0 → Cond.fieldLink (mm_cn (mm_own M)) idx "java/lang/String" "COMPACT_STRINGS" "Z" ∈ lw_g) ∧ (a ≠ 0 → Cond.fieldLink (mm_cn (mm_own M)) idx "jdk/internal/util/Preconditions" "SIOOBE_FORMATTER" "Ljava/util/function/BiFunction;" ∈ lw_g)
  | .new idx => ∃ C : String, (vwCl[a]?).map (fun q => q.1) = some C ∧ Cond.classLink (mm_cn (mm_own M)) idx C ∈ lw_g
  | .ldc idx => (b = 0 → Cond.constant (mm_cn (mm_own M)) idx (Int32.ofNat a) ∈ lw_g) ∧ (b ≠ 0 → ∃ tx, mm_strs[a]? = some (mm_own M, idx, tx))
  | .ldc_w idx => Cond.constant (mm_cn (mm_own M)) idx (Int32.ofNat a) ∈ lw_g
  | .ldc2_w idx => Cond.constantLong (mm_cn (mm_own M)) idx (Int64.ofNat a) ∈ lw_g
  | _ => True
/-- what holds of the world's classes, by program -/
def mm_okCls (F : List (List Nat)) : Prop := ∀ (a : Nat) (C : String) (T : u_T) (N : Nat), vwCl[a]? = some (C, T, N) →
  (∀ w ∈ u_ws C T N, w ∈ lw_g) ∧ (∀ x, x < N → ∀ y, y < N → x ≠ y → (T x).2.1 ≠ (T y).2.1) ∧ Cond.instantiable C N ∈ lw_g ∧ Cond.initialized C ∈ lw_g ∧
  ∃ ty : Nat → FieldType, (∀ k, k < N → parseFieldDescriptor (T k).2.2.1 = some (ty k)) ∧ ∀ fs : List Nat, F[a]? = some fs → fs.length = N ∧ ∀ k, k < N → mm_tc (fs.getD k 0) (ty k)
def mm_Ctx (N0 : Nat) (od : Nat → Nat) (cy : ArrayType → ClassId) (D : va_G) (B0 : Heap) (O : mm_Old) (M : mm_Meth) (p : Program) (s : State) (m : MethodId) (args : Array Value) (meth : Method) (c : Code) : Prop :=
  p.tables.exec = Jvm.exec ∧ c.code = mm_bytes M ∧ c.maxLocals = mm_maxL M ∧ s.vm.findClass (mm_cn (mm_own M)) = some m.cls ∧ (∀ w ∈ lw_g, w.before args s = true) ∧ mm_K N0 od cy D B0 O s ∧
  meth.sig.returnType = mm_ret M ∧ meth.locks = false ∧ meth.name = (mm_name M).name ∧ (∀ q : Nat, q < N0 → s.heap[q]? = B0[q]?) ∧ N0 ≤ s.heap.size ∧ B0.size = N0
theorem mm_Cl_get {a : Nat} {q : vw_C} (h : vwCl[a]? = some q) : mm_Cl[a]? = some q := by
  unfold mm_Cl
  rw [List.getElem?_append_left (List.getElem?_eq_some_iff.mp h).1]
  exact h
theorem mm_in_spec {i : Int32} {n : Nat} (h : mm_in i n = true) : vp_in i n := by
  unfold mm_in at h
  simp only [Bool.and_eq_true, Bool.not_eq_true', decide_eq_false_iff_not, Nat.blt_eq] at h
  intro q
  rcases q with q | q
  · exact h.1 q
  · omega
theorem mm_upd {xs : List Int32} {i : Nat} {x : Int32} (hi : i < xs.length) : upd (fun j => xs.getD j 0) i x = fun j => (xs.set i x).getD j 0 := by
  funext j
  simp only [upd, List.getD_eq_getElem?_getD, List.getElem?_set]
  by_cases hj : j = i
  · subst hj; simp [hi]
  · simp [hj, Ne.symm hj]
theorem mm_updL {xs : List Int64} {i : Nat} {x : Int64} (hi : i < xs.length) : vp_updL (fun j => xs.getD j 0) i x = fun j => (xs.set i x).getD j 0 := by
  funext j
  simp only [vp_updL, List.getD_eq_getElem?_getD, List.getElem?_set]
  by_cases hj : j = i
  · subst hj; simp [hi]
  · simp [hj, Ne.symm hj]
theorem mm_in_lt {i : Int32} {n : Nat} (h : mm_in i n = true) : i.toNatClampNeg < n := by
  have := mm_in_spec h
  exact Nat.lt_of_not_le fun q => this (Or.inr q)
section WS
variable {p : Program} {l : Launch} {e : Env} {R : Room} {s : State} {m : MethodId} {args : Array Value} {below : List Frame} {meth : Method} {c : Code} {H : Heap} {locs : List Loc} {cells slots : Nat} {Q : State → Prop} {g : JFrame}
theorem mm_W_size (k : H.size ≤ s.heap.size + cells → W p l e R s m args below meth c H locs cells slots Q g) : W p l e R s m args below meth c H locs cells slots Q g := by
  intro T hT X
  refine k ?_ T hT X
  have h := X.same.2.2.1
  rw [← hT]
  exact h
end WS
theorem mm_fit_spec {N0 : Nat} {od : Nat → Nat} {c : Nat} {v : Value} {ty : FieldType} (h : mm_fit c v = true) (hc : mm_tc c ty) : narrow ty (mm_lv N0 od v) = mm_lv N0 od v ∧ fits ty (mm_lv N0 od v) = true := by
  unfold mm_fit at h
  split at h
  · subst hc; exact ⟨rfl, rfl⟩
  · next x =>
    have hc : ty = .boolean := hc
    subst hc
    simp only [Bool.or_eq_true, decide_eq_true_eq] at h
    rcases h with rfl | rfl <;> exact ⟨rfl, rfl⟩
  · next x =>
    have hc : ty = .byte := hc
    subst hc
    simp only [Bool.and_eq_true, decide_eq_true_eq] at h
    have hf : fits .byte (.int x) = true := by simp [fits, h.1, h.2]
    refine ⟨?_, hf⟩
    show narrow .byte (.int x) = .int x
    have h1 := Int32.le_iff_toInt_le.mp h.1
    have h2 := Int32.le_iff_toInt_le.mp h.2
    have e1 : ((-128 : Int32)).toInt = -128 := by decide
    have e2 : ((127 : Int32)).toInt = 127 := by decide
    rw [e1] at h1
    rw [e2] at h2
    have e3 : vp_nar .byte x = x := by
      rw [vp_nar_byte]
      apply Int32.toInt_inj.mp
      rw [Int8.toInt_toInt32, Int32.toInt_toInt8]
      simp only [Int.bmod]
      omega
    unfold vp_nar at e3
    split at e3
    · next y hy => rw [hy, e3]
    · next hn => exact absurd rfl (hn _)
  · have hc : ty = .long := hc
    subst hc; exact ⟨rfl, rfl⟩
  · rcases hc with ⟨n, rfl⟩ | ⟨t, rfl⟩ <;> exact ⟨rfl, rfl⟩
  · rcases hc with ⟨n, rfl⟩ | ⟨t, rfl⟩ <;> exact ⟨rfl, rfl⟩
  · rcases hc with ⟨n, rfl⟩ | ⟨t, rfl⟩ <;> exact ⟨rfl, rfl⟩
  · cases h
