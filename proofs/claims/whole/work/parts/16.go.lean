/-! RUNS: the soundness of a whole run, calls and all -/
def mm_okV (o idx : Nat) (y : MethodName) : Prop := Cond.methodLink (mm_cn o) idx y ∈ lw_g ∧ Cond.instanceMethod y ∈ lw_g ∧ Cond.selects y.cls y y ∈ lw_g
def mm_okS (o idx : Nat) (y : MethodName) : Prop := Cond.methodLink (mm_cn o) idx y ∈ lw_g ∧ Cond.static y ∈ lw_g
def mm_okI (o idx b : Nat) (y : MethodName) : Prop := ((b = 1 → Cond.methodLink (mm_cn o) idx y ∈ lw_g) ∧ (b ≠ 1 → ∃ host, Cond.methodLinkNest (mm_cn o) idx y host ∈ lw_tbl)) ∧ Cond.instanceMethod y ∈ lw_g ∧ y.name = "<init>"
def mm_okO (o idx : Nat) : Prop := Cond.methodLink (mm_cn o) idx Lib.objectInit ∈ lw_g ∧ Cond.instanceMethod Lib.objectInit ∈ lw_g ∧ Cond.code Lib.objectInit ⟨#[0xb1]⟩ 1 none ∈ lw_g
def mm_okCp (o idx : Nat) : Prop := Cond.methodLink (mm_cn o) idx arraycopyName ∈ lw_g ∧ Cond.native arraycopyName ∈ lw_g ∧ Cond.static arraycopyName ∈ lw_g ∧ Cond.initialized "java/lang/System" ∈ lw_g
def mm_okM (M : mm_Meth) : Prop := plainName (mm_name M).cls = true ∧ (mm_name M).cls = mm_cn (mm_own M) ∧ Cond.code (mm_name M) (mm_bytes M) (mm_maxL M) (mm_ret M) ∈ lw_g ∧ Cond.initialized (mm_name M).cls ∈ lw_g ∧
  ((mm_name M).cls ≠ "java/lang/invoke/MethodHandle" ∧ (mm_name M).cls ≠ "java/lang/invoke/VarHandle" ∧ (parseMethodDescriptor (mm_name M).desc).map (fun d => d.parameters.length) = some (mm_par M)) ∧ mm_maxL M ≤ 21
/-- a place where an exception of the class numbered q is made and thrown -/
def mm_okThr (M : mm_Meth) (pc q : Nat) : Prop := mm_own M = 11 ∧ ((q = 13 ∧ decode (mm_bytes M) pc = .ok (.new 155, 3) ∧ decode (mm_bytes M) (pc + 3) = .ok (.dup, 1) ∧ decode (mm_bytes M) (pc + 4) = .ok (.ldc 157, 2) ∧ decode (mm_bytes M) (pc + 6) = .ok (.invokespecial 159, 3) ∧ decode (mm_bytes M) (pc + 9) = .ok (.athrow, 1)) ∨
  (q = 14 ∧ decode (mm_bytes M) pc = .ok (.new 178, 3) ∧ decode (mm_bytes M) (pc + 3) = .ok (.dup, 1) ∧ decode (mm_bytes M) (pc + 4) = .ok (.ldc 180, 2) ∧ decode (mm_bytes M) (pc + 6) = .ok (.invokespecial 182, 3) ∧ decode (mm_bytes M) (pc + 9) = .ok (.athrow, 1)))
def mm_mname (a : Nat) : MethodName := match a with
  | 0 => Lib.Math.max.name
  | 1 => Lib.Math.min.name
  | 2 => Lib.MathLoose.max_long.x
  | 3 => Lib.MathLoose.min_long.x
  | _ => Lib.MathLoose.abs_long.x
def mm_mcode (a : Nat) : Cond := match a with
  | 0 => .code Lib.Math.max.name Lib.Math.max.code 2 (some .int)
  | 1 => .code Lib.Math.min.name Lib.Math.min.code 2 (some .int)
  | 2 => .code Lib.MathLoose.max_long.x Lib.MathLoose.max_long.code 4 (some .long)
  | 3 => .code Lib.MathLoose.min_long.x Lib.MathLoose.min_long.code 4 (some .long)
  | _ => .code Lib.MathLoose.abs_long.x Lib.MathLoose.abs_long.code 2 (some .long)
def mm_okMath (o idx a : Nat) : Prop := Cond.methodLink (mm_cn o) idx (mm_mname a) ∈ lw_g ∧ Cond.static (mm_mname a) ∈ lw_g ∧ Cond.initialized "java/lang/Math" ∈ lw_g ∧ mm_mcode a ∈ lw_g
/-- what the linking has checked of a row -/
def mm_okRow (P : Nat → Option mm_Meth) (M : mm_Meth) (pc : Nat) (w : mm_Row) : Prop := decode (mm_bytes M) pc = .ok (w.1, w.2.1) ∧ match w.1 with
  | .goto off => (pc : Int) + off = (w.2.2.1 : Int) ∧ w.2.1 = 3
  | .if_icmp _ off => (pc : Int) + off = (w.2.2.1 : Int) ∧ w.2.1 = 3
  | .ifCond _ off => (pc : Int) + off = (w.2.2.1 : Int) ∧ w.2.1 = 3
  | .tableswitch _ _ _ _ => True
  | .lookupswitch _ ps => (ps.toList.zip (ps.toList.drop 1)).all (fun (a, next) => a.1 < next.1) = true
  | .ireturn => w.2.1 = 1
  | .lreturn => w.2.1 = 1 ∧ mm_ret M = some .long
  | .return_ => w.2.1 = 1 ∧ mm_ret M = none
  | .invokevirtual idx => w.2.1 = 3 ∧ ∀ N, P w.2.2.1 = some N → mm_okV (mm_own M) idx (mm_name N)
  | .invokestatic idx => w.2.1 = 3 ∧ (w.2.2.2.1 = 0 → ∀ N, P w.2.2.1 = some N → mm_okS (mm_own M) idx (mm_name N)) ∧ (w.2.2.2.1 = 1 → mm_okCp (mm_own M) idx) ∧ (w.2.2.2.1 ≠ 0 → w.2.2.2.1 ≠ 2 → w.2.2.2.1 ≠ 3 → w.2.2.2.1 = 1) ∧ (w.2.2.2.1 = 3 → mm_okMath (mm_own M) idx w.2.2.1) ∧ (w.2.2.2.1 = 2 → Cond.methodLink (mm_cn (mm_own M)) idx yL_corner ∈ lw_g ∧ ∀ N, P w.2.2.1 = some N → mm_name N = yX11_corner ∧ mm_okV 15 7 (mm_name N) ∧ mm_ret N = some .int)
  | .invokespecial idx => w.2.1 = 3 ∧ (w.2.2.2.1 = 0 → mm_okO (mm_own M) idx) ∧ (w.2.2.2.1 ≠ 0 → ∀ N, P w.2.2.1 = some N → mm_okI (mm_own M) idx w.2.2.2.1 (mm_name N) ∧ mm_ret N = none)
  | .new idx => w.2.1 = 3 ∧ (w.2.2.2.1 = 1 → mm_okThr M pc w.2.2.1) ∧ (w.2.2.2.1 ≠ 1 → mm_okStep M (.new idx) w.2.2.1 w.2.2.2.1 w.2.2.2.2)
  | i => w.2.1 = mm_len1 i ∧ mm_okStep M i w.2.2.1 w.2.2.2.1 w.2.2.2.2
def mm_okRows (P : Nat → Option mm_Meth) (M : mm_Meth) : Prop := ∀ (pc : Nat) (w : mm_Row), mm_at (mm_rows M) pc = some w → mm_okRow P M pc w
def mm_okProg (P : Nat → Option mm_Meth) : Prop := ∀ (k : Nat) (N : mm_Meth), P k = some N → mm_okM N ∧ mm_okRows P N
theorem mm_K_warm {N0 : Nat} {od : Nat → Nat} {cy : ArrayType → ClassId} {D : va_G} {B0 : Heap} {O : mm_Old} {s U : State} (hW : s.WarmedH U.vm) (h : mm_K N0 od cy D B0 O s) : mm_K N0 od cy D B0 O U := by
  obtain ⟨hK, hX, hT, hZ, hR⟩ := h
  exact ⟨va_K.moved hW.alike hK, fun z xs hz => ⟨va_X.moved hW.alike (hX z xs hz).1, (hX z xs hz).2⟩, vk_S.moved hW.alike hT, ⟨va_Z.moved hW.alike hZ.1, va_Z.moved hW.alike hZ.2⟩, fun j q hq => vk_R.warm hW (hR.1 j q hq), fun a i x z hz => va_Nw.warmM hW (hR.2.1 a i x z hz), fun C T hz => va_Nw.warmC hW (hR.2.2.1 C T hz), fun x hz => va_Nw.warmD hW (hR.2.2.2.1 x hz), vx_Zq.moved hW.alike hR.2.2.2.2.1, vx_Zq.moved hW.alike hR.2.2.2.2.2.1, va_Nc.moved hW.alike hR.2.2.2.2.2.2⟩
theorem mm_K_calling {N0 : Nat} {od : Nat → Nat} {cy : ArrayType → ClassId} {D : va_G} {B0 : Heap} {O : mm_Old} {U : State} {g : JFrame} {mk : MethodId} {a : Array Value} (h : mm_K N0 od cy D B0 O U) : mm_K N0 od cy D B0 O (U.calling g mk a) := by
  obtain ⟨hK, hX, hT, hZ, hR⟩ := h
  have ha : U.vm.Alike (U.calling g mk a).vm := Vm.Alike.refl U.vm
  exact ⟨va_K.moved ha hK, fun z xs hz => ⟨va_X.moved ha (hX z xs hz).1, (hX z xs hz).2⟩, vk_S.moved ha hT, ⟨va_Z.moved ha hZ.1, va_Z.moved ha hZ.2⟩, fun j q hq => vk_R.same (u := U) rfl (hR.1 j q hq), fun a i x z hz => va_Nw.same (u := U) rfl rfl (hR.2.1 a i x z hz), fun C T hz => va_Nw.same (u := U) rfl rfl (hR.2.2.1 C T hz), fun x hz => va_Nw.same (u := U) rfl rfl (hR.2.2.2.1 x hz), vx_Zq.moved ha hR.2.2.2.2.1, vx_Zq.moved ha hR.2.2.2.2.2.1, va_Nc.moved ha hR.2.2.2.2.2.2⟩
def mm_B (N0 : Nat) (od : Nat → Nat) (cy : ArrayType → ClassId) (D : va_G) (B0 : Heap) (O : mm_Old) (h : mm_Heap) (g : Nat) (U : State) : Prop :=
  (U.heap.size ≤ N0 + h.length + g ∧ N0 ≤ U.heap.size) ∧ mm_Pic N0 od cy D h U.heap ∧ mm_K N0 od cy D B0 O U ∧ (∀ q : Nat, q < N0 → U.heap[q]? = B0[q]?) ∧ B0.size = N0
def mm_Pc (N0 : Nat) (od : Nat → Nat) (cy : ArrayType → ClassId) (D : va_G) (B0 : Heap) (O : mm_Old) (vs : List Value) (h : mm_Heap) (g : Nat) : Array Value → State → Prop := va_Pc (vs.map (mm_lv N0 od)) (mm_B N0 od cy D B0 O h g)
def mm_Qc (N0 : Nat) (od : Nat → Nat) (cy : ArrayType → ClassId) (D : va_G) (v : Option Value) (h : mm_Heap) : Array Value → State → Outcome → State → Prop := fun _ st oc t => oc = .returned (v.map (mm_lv N0 od)) ∧ mm_Pic N0 od cy D h t.heap ∧ va_F (mm_A N0) st t
theorem mm_blind {N0 : Nat} {od : Nat → Nat} {cy : ArrayType → ClassId} {D : va_G} {B0 : Heap} {O : mm_Old} {vs : List Value} {h : mm_Heap} {g : Nat} : FrameBlind (mm_Pc N0 od cy D B0 O vs h g) := by
  intro a U g1 mk q
  obtain ⟨q0, q1, q2, q3, q4, q5⟩ := q
  exact ⟨q0, q1, q2, mm_K_calling q3, q4, q5⟩
def mm_mc (h h' : mm_Heap) (g g' : Nat) : Nat := (h'.length + g') - (h.length + g)
def mm_ms (h h' : mm_Heap) (g g' : Nat) : Nat := (mm_sz h' + 6 * g') - (mm_sz h + 6 * g)
def mm_rm (d : Nat) (h h' : mm_Heap) (g g' : Nat) : Room := { frames := d, cells := mm_mc h h' g g', slots := mm_ms h h' g g', locals := 40 * d }
theorem mm_good : GoodIn lw_g lw_g := fun w hw => ⟨hw, good_of_word (List.mem_filter.mp hw).2⟩
theorem mm_goodc {w : Cond} (h : w ∈ lw_g) : GoodIn lw_g (w :: lw_g) := fun v hv => (List.mem_cons.mp hv).elim (fun q => by subst q; exact mm_good _ h) (fun q => mm_good v q)
section CALL
variable {p : Program} {l : Launch} {e : Env} {R : Room} {s : State} {m : MethodId} {args : Array Value} {below : List Frame} {meth : Method} {c : Code} {H : Heap} {locs : List Loc} {cells slots : Nat} {Q : State → Prop}
variable {N0 : Nat} {od : Nat → Nat} {cy : ArrayType → ClassId} {D : va_G} {v : Option Value} {h' : mm_Heap} {a : Array Value} {ls : Array Slot} {st0 rest : List Value} {pc mc ms : Nat}
theorem mm_call (hr : va_Run p l e R s m args below meth c H locs cells slots mc ms (F0 m pc ls st0) rest (mm_Qc N0 od cy D v h' a) (mm_A N0)) (hS : va_S (mm_A N0) s.heap H locs)
    (kk : ∀ (H1 : Heap) (locs1 : List Loc), mm_Pic N0 od cy D h' H1 → va_S (mm_A N0) s.heap H1 locs1 → W p l e R s m args below meth c H1 locs1 (cells + mc) (slots + ms) Q (F0 m (pc + 3) ls ((v.map (mm_lv N0 od)).toList ++ rest))) : W p l e R s m args below meth c H locs cells slots Q (F0 m pc ls st0) := by
  intro T hT X
  obtain ⟨v1, st₀, t, T', L, h0, X', hL, e1, e2, ⟨hv, hp, hz, hk⟩, st⟩ := hr T hT X
  cases hv
  rw [h0] at hz hk
  obtain ⟨t2, a1, b1⟩ := kk T'.heap (locs ++ L) (by rw [e1]; exact hp)
    ⟨Nat.le_trans hS.1 (by rw [e1]; exact hz), fun q g1 g2 => by rw [e1, hk q (Nat.lt_of_lt_of_le g1 hS.1) g2]; exact hS.2.1 q g1 g2, fun q hq => by
      rcases List.mem_append.mp hq with g | g
      · exact hS.2.2 q g
      · exact hL q g⟩ T' rfl X'
  exact ⟨t2, st t2 a1, b1⟩
end CALL
theorem mm_val_spec {v : Option Value} {vs : List Value} (h : mm_val v = some vs) : vs = v.toList := by
  unfold mm_val at h
  split at h
  · cases h
  · cases h; rfl
  · cases h; rfl
theorem mm_cnCl {a : Nat} {q : vw_C} (h : mm_Cl[a]? = some q) : q.1 = mm_cn a := by
  have hl : a < 15 := (List.getElem?_eq_some_iff.mp h).1
  have : ∀ k : Nat, k < 15 → (mm_Cl[k]?).map (fun z => z.1) = some (mm_cn k) := by
    intro k hk
    match k, hk with
    | 0, _ => rfl
    | 1, _ => rfl
    | 2, _ => rfl
    | 3, _ => rfl
    | 4, _ => rfl
    | 5, _ => rfl
    | 6, _ => rfl
    | 7, _ => rfl
    | 8, _ => rfl
    | 9, _ => rfl
    | 10, _ => rfl
    | 11, _ => rfl
    | 12, _ => rfl
    | 13, _ => rfl
    | 14, _ => rfl
    | k + 15, hk => omega
  have h2 := this a hl
  rw [h] at h2
  exact Option.some.inj h2
