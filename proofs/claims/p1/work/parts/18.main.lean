/-! SOUNDNESS: a mini run is a run of the machine -/
theorem mm_rfit_spec {ret : Option FieldType} {x : Int32} (h : mm_rfit ret x = true) : ∃ ty, ret = some ty ∧ narrow ty (.int x) = .int x := by
  unfold mm_rfit at h
  split at h
  · exact ⟨_, rfl, rfl⟩
  · simp only [Bool.or_eq_true, decide_eq_true_eq] at h
    rcases h with rfl | rfl <;> exact ⟨_, rfl, rfl⟩
  · exact ⟨_, rfl, (mm_fit_spec (N0 := 0) (od := fun _ => 0) (c := 2) (v := .int x) (ty := .byte) h rfl).1⟩
  · simp only [Bool.and_eq_true, decide_eq_true_eq] at h
    obtain ⟨j, hj, rfl⟩ := nI_of2 (x := x) (M := 65535) (n := 65535) (by decide) (Int32.not_lt.mpr h.1) h.2
    exact ⟨_, rfl, (pk_charN (by omega)).1⟩
  · cases h
/-- where a run may end -/
def mm_End (N0 : Nat) (od : Nat → Nat) (cy : ArrayType → ClassId) (D : va_G) (P : Nat → Option mm_Meth) (M : mm_Meth) (p : Program) (l : Launch) (e : Env) (R : Room) (s : State) (m : MethodId) (args : Array Value) (below : List Frame) (meth : Method) (c0 : Code) (Q : State → Prop) (v : mm_Res) (hF : mm_Heap) (gF n0 z0 : Nat) : Prop :=
  ∀ (H' : Heap) (locs' : List Loc) (ls' : Array Slot) (pc' cells' slots' : Nat), va_S (mm_A N0) s.heap H' locs' →
    (∀ x, v = some (.int x) → mm_rfit (mm_ret M) x = true → decode (mm_bytes M) pc' = .ok (.ireturn, 1) → mm_Pic N0 od cy D hF H' → cells' + n0 = hF.length + gF → slots' + z0 = mm_sz hF + 6 * gF → W p l e R s m args below meth c0 H' locs' cells' slots' Q (F0 m pc' ls' [.int x])) ∧
    (∀ x, v = some (.long x) → mm_ret M = some .long → decode (mm_bytes M) pc' = .ok (.lreturn, 1) → mm_Pic N0 od cy D hF H' → cells' + n0 = hF.length + gF → slots' + z0 = mm_sz hF + 6 * gF → W p l e R s m args below meth c0 H' locs' cells' slots' Q (F0 m pc' ls' [.long x])) ∧
    (v = none → mm_ret M = none → decode (mm_bytes M) pc' = .ok (.return_, 1) → mm_Pic N0 od cy D hF H' → cells' + n0 = hF.length + gF → slots' + z0 = mm_sz hF + 6 * gF → W p l e R s m args below meth c0 H' locs' cells' slots' Q (F0 m pc' ls' [])) ∧
    (∀ q : Nat, v = some (.retAddr q) → mm_okThr M pc' q → 6 ≤ R.frames ∧ 240 ≤ R.locals → mm_Pic N0 od cy D hF H' → cells' + n0 + 1 = hF.length + gF → slots' + z0 + 6 = mm_sz hF + 6 * gF → ls'.size = mm_maxL M → W p l e R s m args below meth c0 H' locs' cells' slots' Q (F0 m pc' ls' []))
def mm_Go (N0 : Nat) (od : Nat → Nat) (cy : ArrayType → ClassId) (D : va_G) (B0 : Heap) (O : mm_Old) (P : Nat → Option mm_Meth) (l : Launch) (n : Nat) : Prop :=
  ∀ (d : Nat) (M : mm_Meth) (pc : Nat) (r : mm_Loc) (st : List Value) (h : mm_Heap) (g : Nat) (v : mm_Res) (hF : mm_Heap) (gF : Nat), mm_run P O n d M pc r st h g = some (v, hF, gF) → mm_okRows P M →
  ∀ (p : Program) (e : Env) (R : Room) (s : State) (m : MethodId) (args : Array Value) (below : List Frame) (meth : Method) (c0 : Code) (Q : State → Prop) (H : Heap) (locs : List Loc) (ls : Array Slot) (cells slots n0 z0 : Nat),
    mm_Ctx N0 od cy D B0 O M p s m args meth c0 → mm_Pic N0 od cy D h H → va_S (mm_A N0) s.heap H locs → mm_rel N0 od (mm_maxL M) r ls → s.heap.size ≤ N0 + n0 → cells + n0 = h.length + g → slots + z0 = mm_sz h + 6 * g →
    hF.length + gF ≤ R.cells + n0 → mm_sz hF + 6 * gF ≤ R.slots + z0 → d ≤ R.frames → 40 * d ≤ R.locals → mm_End N0 od cy D P M p l e R s m args below meth c0 Q v hF gF n0 z0 →
    W p l e R s m args below meth c0 H locs cells slots Q (F0 m pc ls (st.map (mm_lv N0 od)))
section MET
variable {N0 : Nat} {od : Nat → Nat} {cy : ArrayType → ClassId} {D : va_G} {B0 : Heap} {O : mm_Old} {P : Nat → Option mm_Meth} {l : Launch}
set_option maxHeartbeats 1000000 in
/-- a method's contract, out of a mini run of its body -/
theorem mm_met {n : Nat} (go : mm_Go N0 od cy D B0 O P l n) {d : Nat} {N : mm_Meth} {vs : List Value} {h h1 : mm_Heap} {g g1 : Nat} {v : mm_Res} (hr : mm_run P O n d N 0 (mm_entry (mm_maxL N) vs) [] h g = some (v, h1, g1)) (hN : mm_okM N) (hrows : mm_okRows P N) (hsl : (mm_sl vs).length ≤ mm_maxL N) (hv : ∀ q, v ≠ some (.retAddr q)) :
    Met l (mm_name N) (Cond.code (mm_name N) (mm_bytes N) (mm_maxL N) (mm_ret N) :: lw_g) (mm_rm d h h1 g g1) (mm_Pc N0 od cy D B0 O vs h g) (mm_Qc N0 od cy D v h1) (mm_mc h h1 g g1) (mm_ms h h1 g g1) (mm_A N0) := by
  refine Met.ofW (cc := mm_bytes N) (maxL := mm_maxL N) (ret := mm_ret N) hN.1 rfl ?_
  intro p e s m args below meth c s₁ B hml hv0
  obtain ⟨rfl, ⟨hsz, hsz2⟩, hP, hK, hold, hB0⟩ := hv0
  have hts := atoms_spec (ws := Cond.code (mm_name N) (mm_bytes N) (mm_maxL N) (mm_ret N) :: lw_g) B.pre
  have hown : s.vm.findClass (mm_name N).cls = some m.cls := findClass_of_methodNamed B.named
  rw [hN.2.1] at hown
  have hnm : meth.name = (mm_name N).name := (name_of_methodNamed B.named B.method).1
  obtain ⟨⟨m1, m2⟩, m3⟩ := mm_run_mono _ _ _ _ _ _ _ _ _ _ _ hr
  rw [lg_entry_eq]
  refine go d N 0 _ [] h g v h1 g1 hr hrows p e _ s m _ below meth c _ s.heap [] _ 0 0 (h.length + g) (mm_sz h + 6 * g) ⟨B.exec, B.bytes, hml, hown, fun w hw => hts w (List.mem_cons_of_mem _ hw), hK, B.returns, B.notSynchronized, hnm, hold, hsz2, hB0⟩ hP va_S.rf (mm_rel_entry vs hsl) (by omega) (by omega) (by omega) (by show h1.length + g1 ≤ mm_mc h h1 g g1 + (h.length + g); unfold mm_mc; omega) (by show mm_sz h1 + 6 * g1 ≤ mm_ms h h1 g g1 + (mm_sz h + 6 * g); unfold mm_ms; omega) (Nat.le_refl d) (Nat.le_refl _) ?_
  intro H' locs' ls' pc' cells' slots' hS'
  have hfr : ∀ q ∈ locs', mm_A N0 q.base := hS'.2.2
  refine ⟨fun x hx hfit hdg hP1 hc hs => ?_, fun x hx hret hdg hP1 hc hs => ?_, fun hx hret hdg hP1 hc hs => ?_, fun q hx => absurd hx (hv q)⟩
  · subst hx
    obtain ⟨ty, hty, hna⟩ := mm_rfit_spec hfit
    have e1 : cells' = mm_mc h h1 g g1 := by unfold mm_mc; omega
    have e2 : slots' = mm_ms h h1 g g1 := by unfold mm_ms; omega
    subst e1; subst e2
    exact W.zret (ty := ty) B.exec B.bytes (B.returns.trans hty) hna (fun t ht _ => ⟨rfl, by rw [ht]; exact hP1, hS'.F ht⟩) hfr hdg B.notSynchronized
  · subst hx
    have e1 : cells' = mm_mc h h1 g g1 := by unfold mm_mc; omega
    have e2 : slots' = mm_ms h h1 g g1 := by unfold mm_ms; omega
    subst e1; subst e2
    exact W.lret B.exec B.bytes (B.returns.trans hret) (fun t ht _ => ⟨rfl, by rw [ht]; exact hP1, hS'.F ht⟩) hfr hdg B.notSynchronized
  · subst hx
    have e1 : cells' = mm_mc h h1 g g1 := by unfold mm_mc; omega
    have e2 : slots' = mm_ms h h1 g g1 := by unfold mm_ms; omega
    subst e1; subst e2
    exact W.vret B.exec B.bytes (B.returns.trans hret) (fun t ht _ => ⟨rfl, by rw [ht]; exact hP1, hS'.F ht⟩) hfr hdg B.notSynchronized
end MET
