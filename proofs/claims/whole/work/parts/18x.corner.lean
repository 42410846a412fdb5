section XMET
variable {N0 : Nat} {od : Nat → Nat} {cy : ArrayType → ClassId} {D : va_G} {B0 : Heap} {O : mm_Old} {P : Nat → Option mm_Meth} {l : Launch}
/-- what holds behind a throw -/
def mm_XC (N0 : Nat) (od : Nat → Nat) (cy : ArrayType → ClassId) (D : va_G) (q : Nat) (h : mm_Heap) : String → State → State → Prop := fun E st t => (E = mm_cn q ∧ (q = 13 ∨ q = 14)) ∧ mm_Pic N0 od cy D h t.heap ∧ va_F (mm_A N0) st t
set_option maxHeartbeats 1000000 in
theorem mm_metX (hst : l.stackTraces = false) {n : Nat} (go : mm_Go N0 od cy D B0 O P l n) {d : Nat} {N : mm_Meth} {vs : List Value} {h h1 : mm_Heap} {g g1 q : Nat} (hr : mm_run P O n d N 0 (mm_entry (mm_maxL N) vs) [] h g = some (some (.retAddr q), h1, g1)) (hN : mm_okM N) (hrows : mm_okRows P N) (hsl : (mm_sl vs).length ≤ mm_maxL N) :
    vx_Met l (mm_name N) (Cond.code (mm_name N) (mm_bytes N) (mm_maxL N) (mm_ret N) :: lw_g) (mm_rm d h h1 g g1) (mm_Pc N0 od cy D B0 O vs h g) (fun _ _ _ _ => False) (mm_XC N0 od cy D q h1) (mm_mc h h1 g g1) (mm_ms h h1 g g1) (mm_A N0) := by
  refine vx_ofW (cc := mm_bytes N) (maxL := mm_maxL N) (ret := mm_ret N) hN.1 rfl ?_
  intro p e s m args below meth c s₁ B hml hout hv0
  obtain ⟨rfl, ⟨hsz, hsz2⟩, hP, hK, hold, hB0⟩ := hv0
  have hts := atoms_spec (ws := Cond.code (mm_name N) (mm_bytes N) (mm_maxL N) (mm_ret N) :: lw_g) B.pre
  have hts' : ∀ w ∈ lw_g, w.before ((vs.map (mm_lv N0 od)).toArray) s = true := fun w hw => hts w (List.mem_cons_of_mem _ hw)
  have hown : s.vm.findClass (mm_name N).cls = some m.cls := findClass_of_methodNamed B.named
  rw [hN.2.1] at hown
  have hnm : meth.name = (mm_name N).name := (name_of_methodNamed B.named B.method).1
  obtain ⟨⟨m1, m2⟩, m3⟩ := mm_run_mono _ _ _ _ _ _ _ _ _ _ _ hr
  rw [lg_entry_eq]
  refine go d N 0 _ [] h g _ h1 g1 hr hrows p e _ s m _ below meth c _ s.heap [] _ 0 0 (h.length + g) (mm_sz h + 6 * g) ⟨B.exec, B.bytes, hml, hown, hts', hK, B.returns, B.notSynchronized, hnm, hold, hsz2, hB0⟩ hP va_S.rf (mm_rel_entry vs hsl) (by omega) (by omega) (by omega) (by show h1.length + g1 ≤ mm_mc h h1 g g1 + (h.length + g); unfold mm_mc; omega) (by show mm_sz h1 + 6 * g1 ≤ mm_ms h h1 g g1 + (mm_sz h + 6 * g); unfold mm_ms; omega) (Nat.le_refl d) (Nat.le_refl _) ?_
  intro H' locs' ls' pc' cells' slots' hS'
  refine ⟨fun x hx => (by cases hx), fun x hx => (by cases hx), fun hx => (by cases hx), fun q' hx hthr hR hP1 hc hs hls => ?_⟩
  cases hx
  obtain ⟨-, -, -, -, hstr, -, hKX⟩ := id hK
  have hUs : vx_Zq Bundle.tN "UNASSIGNED_STACK" Bundle.steD (mm_A N0) s s.heap := hKX.2.2.1.kept (fun q hq hn => hold q (by rw [← hB0]; exact hq))
  have hNs : vx_Zq Bundle.tN "SUPPRESSED_SENTINEL" Bundle.listD (mm_A N0) s s.heap := hKX.2.2.2.1.kept (fun q hq hn => hold q (by rw [← hB0]; exact hq))
  have hno : ∀ x ∈ c.exceptionTable.toList, covers x (pc' + 9) = false := fun x hx => (hout x hx).elim
  have hpic : ∀ t : State, H'.size ≤ t.heap.size → (∀ q : Nat, q < H'.size → t.heap[q]? = H'[q]?) → mm_Pic N0 od cy D h1 t.heap ∧ va_F (mm_A N0) s t := by
    intro t z1 z2
    refine ⟨hP1.kept (fun k q hk => z2 q.1 (hP1 k q hk).lt), Nat.le_trans hS'.1 z1, fun q y1 y2 => ?_⟩
    rw [z2 q (Nat.lt_of_lt_of_le y1 hS'.1)]
    exact hS'.2.1 q y1 y2
  obtain ⟨ho, hthr⟩ := hthr
  rw [ho] at hown
  have e1 : cells' + 1 = mm_mc h h1 g g1 := by unfold mm_mc; omega
  have e2 : slots' + 6 = mm_ms h h1 g g1 := by unfold mm_ms; omega
  rcases hthr with ⟨rfl, d0, d3, d4, d6, d9⟩ | ⟨rfl, d0, d3, d4, d6, d9⟩
  · exact vx_throwS (rest := []) (names := mm_xn) (cls := "java/lang/IndexOutOfBoundsException") (own := "ThiefTakers") B.exec B.bytes hst hown (by decide +kernel) (by decide +kernel) (hts' _ mm_x1) (hts' _ mm_x2) (hstr 2 _ rfl) (mm_xat mm_xa1 hts' hKX) mm_xg1 hUs hNs hS' (hls.trans hml.symm) d0 d3 d4 d6 d9 hno (by show 5 < _; exact Nat.lt_of_lt_of_le (by omega) hR.1) (by show 0 + 82 ≤ _; exact Nat.le_trans (by omega) hR.2) (by show cells' + 1 ≤ mm_mc h h1 g g1; omega) (by show slots' + 6 ≤ mm_ms h h1 g g1; omega) B.notSynchronized (fun t _ z1 z2 => ⟨⟨rfl, Or.inl rfl⟩, hpic t z1 z2⟩) hS'.2.2 (by omega) (by omega)
  · have hs3 : vk_R "ThiefTakers" 180 "no such what" (od 4) s := hstr 3 (11, 180, "no such what") rfl
    have w2 := mm_xat mm_xa2 hts' hKX
    exact nx_throwS (rest := []) (is := 180) (ik := 178) B.exec B.bytes hst hown (hts' _ mm_x3) (hts' _ mm_x4) hs3 w2 mm_xg2 hUs hNs hS' (hls.trans hml.symm) d0 d3 d4 d6 d9 hno (by show 5 < _; exact Nat.lt_of_lt_of_le (by omega) hR.1) (by show 0 + 82 ≤ _; exact Nat.le_trans (by omega) hR.2) (by show cells' + 1 ≤ mm_mc h h1 g g1; omega) (by show slots' + 6 ≤ mm_ms h h1 g g1; omega) B.notSynchronized (fun t _ z1 z2 => ⟨⟨rfl, Or.inr rfl⟩, hpic t z1 z2⟩) hS'.2.2 (by omega) (by omega)
set_option maxHeartbeats 2000000 in
/-- the law's own method that catches: where the called one answers -/
theorem mm_lcI {n : Nat} (go : mm_Go N0 od cy D B0 O P l n) {d x o : Nat} {N : mm_Meth} {p0 p1 y : Int32} {h h1 h2 : mm_Heap} {g g1 : Nat} (hr : mm_run P O n d N 0 (mm_entry (mm_maxL N) [.ref x, .int p0, .int p1]) [] h g = some (some (.int y), h1, g1)) (hN : mm_okM N) (hrows : mm_okRows P N) (hsl : 3 ≤ mm_maxL N) (hpar : mm_par N = 2) (hret : mm_ret N = some .int)
    (hv : mm_okV 15 7 (mm_name N)) (hrcv : ∃ fs, h[x]? = some (.inl (mm_own N, fs))) (hl : mm_last h1 (.ref o) 0 y.toInt64 = some h2) :
    Met l yL_corner (Cond.codeWith yL_corner cL_corner 5 (some .int) [(0, 10, 13, 13), (0, 10, 17, 15)] :: lw_g) (mm_rm (d + 1) h h2 g g1) (mm_Pc N0 od cy D B0 O [.ref x, .int p0, .int p1, .ref o] h g) (mm_Qc N0 od cy D (some (.int 0)) h2) (mm_mc h h2 g g1) (mm_ms h h2 g g1) (mm_A N0) := by
  refine va_MetW (cc := cL_corner) (maxL := 5) (ret := some .int) (hh := [(0, 10, 13, 13), (0, 10, 17, 15)]) (by decide +kernel) rfl ?_
  intro p e s m args below meth c s₁ B hml hv0
  obtain ⟨rfl, ⟨hsz, hsz2⟩, hP, hK, hold, hB0⟩ := hv0
  have hts := fun w hw => atoms_spec (ws := Cond.codeWith yL_corner cL_corner 5 (some .int) [(0, 10, 13, 13), (0, 10, 17, 15)] :: lw_g) B.pre w (List.mem_cons_of_mem _ hw)
  have hown : s.vm.findClass RL = some m.cls := findClass_of_methodNamed B.named
  have hx := B.exec
  have hb := B.bytes
  obtain ⟨⟨m1, m2⟩, m3⟩ := mm_run_mono _ _ _ _ _ _ _ _ _ _ _ hr
  obtain ⟨q1, q2⟩ := mm_last_same hl
  obtain ⟨hpl, hcn1, hcode, hini, hd, hmx⟩ := id hN
  obtain ⟨hlk1, hin, hse⟩ := hv
  rw [lg_entry_eq]
  have hl0 := lv_entry ([Value.ref x, .int p0, .int p1, .ref o].map (mm_lv N0 od)) (n := 5) (Nat.le_of_ble_eq_true rfl)
  have hl0 : lv_has _ 5 [(0, .ref (N0 + x)), (1, .int p0), (2, .int p1), (3, .ref (N0 + o))] := hl0
  generalize (lg_sl ([Value.ref x, .int p0, .int p1, .ref o].map (mm_lv N0 od)) ++ List.replicate (5 - (lg_sl ([Value.ref x, .int p0, .int p1, .ref o].map (mm_lv N0 od))).length) Slot.unset).toArray = ls at hl0 ⊢
  refine lv_aload_n hx hb dL_c0 rfl (lv_at hl0 3 rfl) ?_
  refine lv_iconst (v := 0) hx hb dL_c1 (by decide) ?_
  refine lv_aload_n hx hb dL_c2 rfl (lv_at hl0 0 rfl) ?_
  refine lv_iload_n hx hb dL_c3 rfl (lv_at hl0 1 rfl) ?_
  refine lv_iload_n hx hb dL_c4 rfl (lv_at hl0 2 rfl) ?_
  have hM1 := mm_met go hr hN hrows (vs := [.ref x, .int p0, .int p1]) (by exact hsl) (fun q => by simp)
  have hcw : CallW (mm_rm (d + 1) h h2 g g1) s _ RL (mm_name N).cls 7 (mm_name N) (mm_bytes N) (mm_maxL N) (mm_ret N) (Cond.code (mm_name N) (mm_bytes N) (mm_maxL N) (mm_ret N) :: lw_g) (mm_rm d h h1 g g1) (mm_mc h h1 g g1) (mm_ms h h1 g g1) 2 :=
    ⟨callB_of 2 hts (mm_goodc hcode) rfl rfl rfl (hts _ hini) (hts _ hlk1) (hpar ▸ hd) ⟨Nat.le_refl _, by show 8 + (mm_maxL N + 11) + 40 * d ≤ 40 * (d + 1); omega⟩, hts _ hin, hts _ hse⟩
  obtain ⟨fs, hrcv⟩ := hrcv
  have hrec : ∃ cell : Cell, s.heap[N0 + x]? = some cell ∧ cell.vm.isStatics = false ∧ s.vm.findClass (mm_name N).cls = some cell.cls := by
    obtain ⟨q, hq1, -⟩ := hP x _ (mm_ws_get hrcv)
    have hq1 : mm_Cl[mm_own N]? = some q := hq1
    have := va_recv hK.1 hP (ci := mm_own N) hq1 (mm_ws_get hrcv)
    rw [hcn1, ← mm_cnCl hq1]
    exact this
  refine mm_call (v := some (.int y)) (h' := h1) (rest := [.int (0), .ref (N0 + o)]) (va_runV (As := [.int p0, .int p1]) ⟨hx, hb, hml, hown, hts⟩ hM1 hcw ⟨mm_blind, hrec, fun U hU hW => ⟨rfl, ⟨by rw [hU]; exact hsz, by rw [hU]; exact hsz2⟩, by rw [hU]; exact hP, mm_K_warm hW hK, fun q hq => by rw [hU]; exact hold q hq, hB0⟩⟩ rfl rfl hl0.1 rfl (lv_room (Nat.le_of_ble_eq_true rfl)) dL_c5 ⟨?_, ?_⟩) va_S.rf (fun H1 locs1 hP1 hS1 => ?_)
  · show 0 + mm_mc h h1 g g1 ≤ mm_mc h h2 g g1
    unfold mm_mc; omega
  · show 0 + mm_ms h h1 g g1 ≤ mm_ms h h2 g g1
    unfold mm_ms; omega
  · refine lv_i2l hx hb dL_c8 rfl ?_
    unfold mm_last at hl
    dsimp only at hl
    split at hl
    · next xs hk0 =>
      cases hi : mm_in 0 xs.length with
      | false => rw [hi] at hl; cases hl
      | true =>
        rw [hi] at hl
        simp only [cond_true, Option.some.injEq] at hl
        subst hl
        refine va_last (cl := mm_Cl) hx hb hK.1 hP1 (mm_D h1) hS1 o 1 (mm_ws_get hk0) rfl (mm_in_spec hi) dL_c9 (fun H2 locs2 hP2 hD2 hS2 => ?_)
        rw [mm_updL (mm_in_lt hi)] at hP2
        have hP3 : mm_Pic N0 od cy D (h1.set o (.inr (.inr (xs.set (0 : Int32).toNatClampNeg y.toInt64)))) H2 := by
          show va_P D mm_Cl (mm_ws N0 od cy _) H2
          rw [← mm_ws_set]
          simpa [mm_lc] using hP2
        refine lv_goto hx hb dL_c10 (tgt := 21) (by decide) ?_
        refine lv_iconst hx hb dL_c21 rfl ?_
        refine W.cs (cells' := mm_mc h (h1.set o (.inr (.inr (xs.set (0 : Int32).toNatClampNeg y.toInt64)))) g g1) (slots' := mm_ms h (h1.set o (.inr (.inr (xs.set (0 : Int32).toNatClampNeg y.toInt64)))) g g1) (by unfold mm_mc; omega) (by unfold mm_ms; omega) ?_
        exact W.iret hx hb B.returns (fun t ht _ => ⟨rfl, by rw [ht]; exact hP3, hS2.F ht⟩) hS2.2.2 dL_c22 B.notSynchronized
    · cases hl
set_option maxHeartbeats 2000000 in
/-- ... where the called one throws -/
theorem mm_lcX (hst : l.stackTraces = false) {n : Nat} (go : mm_Go N0 od cy D B0 O P l n) {d x o q : Nat} {N : mm_Meth} {p0 p1 : Int32} {h h1 : mm_Heap} {g g1 : Nat} (hr : mm_run P O n d N 0 (mm_entry (mm_maxL N) [.ref x, .int p0, .int p1]) [] h g = some (some (.retAddr q), h1, g1)) (hN : mm_okM N) (hrows : mm_okRows P N) (hsl : 3 ≤ mm_maxL N) (hpar : mm_par N = 2) (hret : mm_ret N = some .int)
    (hv : mm_okV 15 7 (mm_name N)) (hrcv : ∃ fs, h[x]? = some (.inl (mm_own N, fs))) :
    Met l yL_corner (Cond.codeWith yL_corner cL_corner 5 (some .int) [(0, 10, 13, 13), (0, 10, 17, 15)] :: lw_g) (mm_rm (d + 1) h h1 g g1) (mm_Pc N0 od cy D B0 O [.ref x, .int p0, .int p1, .ref o] h g) (mm_Qc N0 od cy D (some (.int (bif Nat.beq q 13 then 1 else 2))) h1) (mm_mc h h1 g g1) (mm_ms h h1 g g1) (mm_A N0) := by
  refine va_MetW (cc := cL_corner) (maxL := 5) (ret := some .int) (hh := [(0, 10, 13, 13), (0, 10, 17, 15)]) (by decide +kernel) rfl ?_
  intro p e s m args below meth c s₁ B hml hv0
  obtain ⟨rfl, ⟨hsz, hsz2⟩, hP, hK, hold, hB0⟩ := hv0
  have htsw := atoms_spec (ws := Cond.codeWith yL_corner cL_corner 5 (some .int) [(0, 10, 13, 13), (0, 10, 17, 15)] :: lw_g) B.pre
  have hts := fun w hw => htsw w (List.mem_cons_of_mem _ hw)
  have htab : c.exceptionTable.toList = tableOf [(0, 10, 13, 13), (0, 10, 17, 15)] := vx_table (x := yL_corner) B (htsw _ List.mem_cons_self)
  have hown : s.vm.findClass RL = some m.cls := findClass_of_methodNamed B.named
  have hx := B.exec
  have hb := B.bytes
  obtain ⟨⟨m1, m2⟩, m3⟩ := mm_run_mono _ _ _ _ _ _ _ _ _ _ _ hr
  obtain ⟨hpl, hcn1, hcode, hini, hd, hmx⟩ := id hN
  obtain ⟨hlk1, hin, hse⟩ := hv
  rw [lg_entry_eq]
  have hl0 := lv_entry ([Value.ref x, .int p0, .int p1, .ref o].map (mm_lv N0 od)) (n := 5) (Nat.le_of_ble_eq_true rfl)
  have hl0 : lv_has _ 5 [(0, .ref (N0 + x)), (1, .int p0), (2, .int p1), (3, .ref (N0 + o))] := hl0
  generalize (lg_sl ([Value.ref x, .int p0, .int p1, .ref o].map (mm_lv N0 od)) ++ List.replicate (5 - (lg_sl ([Value.ref x, .int p0, .int p1, .ref o].map (mm_lv N0 od))).length) Slot.unset).toArray = ls at hl0 ⊢
  refine lv_aload_n hx hb dL_c0 rfl (lv_at hl0 3 rfl) ?_
  refine lv_iconst (v := 0) hx hb dL_c1 (by decide) ?_
  refine lv_aload_n hx hb dL_c2 rfl (lv_at hl0 0 rfl) ?_
  refine lv_iload_n hx hb dL_c3 rfl (lv_at hl0 1 rfl) ?_
  refine lv_iload_n hx hb dL_c4 rfl (lv_at hl0 2 rfl) ?_
  have hM1 := mm_metX hst go hr hN hrows (vs := [.ref x, .int p0, .int p1]) (by exact hsl)
  have hcw : CallW (mm_rm (d + 1) h h1 g g1) s _ RL (mm_name N).cls 7 (mm_name N) (mm_bytes N) (mm_maxL N) (mm_ret N) (Cond.code (mm_name N) (mm_bytes N) (mm_maxL N) (mm_ret N) :: lw_g) (mm_rm d h h1 g g1) (mm_mc h h1 g g1) (mm_ms h h1 g g1) 2 :=
    ⟨callB_of 2 hts (mm_goodc hcode) rfl rfl rfl (hts _ hini) (hts _ hlk1) (hpar ▸ hd) ⟨Nat.le_refl _, by show 8 + (mm_maxL N + 11) + 40 * d ≤ 40 * (d + 1); omega⟩, hts _ hin, hts _ hse⟩
  obtain ⟨fs, hrcv⟩ := hrcv
  have hrec : ∃ cell : Cell, s.heap[N0 + x]? = some cell ∧ cell.vm.isStatics = false ∧ s.vm.findClass (mm_name N).cls = some cell.cls := by
    obtain ⟨q, hq1, -⟩ := hP x _ (mm_ws_get hrcv)
    have hq1 : mm_Cl[mm_own N]? = some q := hq1
    have := va_recv hK.1 hP (ci := mm_own N) hq1 (mm_ws_get hrcv)
    rw [hcn1, ← mm_cnCl hq1]
    exact this
  have hrun := vx_runV (As := [.int p0, .int p1]) (rest := [.int (0), .ref (N0 + o)]) (g := F0 m 5 ls [.int p1, .int p0, .ref (N0 + x), .int (0), .ref (N0 + o)]) (H := s.heap) (locs := []) (cells := 0) (slots := 0) (e := e) (below := below) (meth := meth) ⟨hx, hb, hml, hown, hts⟩ hM1 hcw ⟨mm_blind, hrec, fun U hU hW => ⟨rfl, ⟨by rw [hU]; exact hsz, by rw [hU]; exact hsz2⟩, by rw [hU]; exact hP, mm_K_warm hW hK, fun q hq => by rw [hU]; exact hold q hq, hB0⟩⟩ rfl rfl hl0.1 rfl (lv_room (Nat.le_of_ble_eq_true rfl)) dL_c5 ⟨by show 0 + mm_mc h h1 g g1 ≤ mm_mc h h1 g g1; omega, by show 0 + mm_ms h h1 g g1 ≤ mm_ms h h1 g g1; omega⟩
  intro T hT X
  rcases hrun T hT X with ⟨v1, st₀, t, T', L, h0, X', hL, e1, e2, hF, -⟩ | ⟨qa, st₀, t, T', L, E, ce, h0, X', hL, e1, e2, ⟨⟨hE, hq⟩, hPt, hFt⟩, hce, hcv, hcl, hsteps⟩
  · exact hF.elim
  · have hS1 : va_S (mm_A N0) s.heap T'.heap ([] ++ L) := by
      refine ⟨by rw [e1, ← h0]; exact hFt.1, fun q g1 g2 => by rw [e1, hFt.2 q (by rw [h0]; exact g1) g2, h0], fun q hq => hL q (by simpa using hq)⟩
    have hP1 : mm_Pic N0 od cy D h1 T'.heap := by rw [e1]; exact hPt
    rcases hq with rfl | rfl
    · have hE : E = "java/lang/IndexOutOfBoundsException" := hE
      subst hE
      have hcast : (Cond.castable "java/lang/IndexOutOfBoundsException" "java/lang/IndexOutOfBoundsException").before ([Value.ref x, .int p0, .int p1, .ref o].map (mm_lv N0 od)).toArray s = true := va_Nw.use rfl (hK.2.2.2.2.2.2.1 _ _ (List.mem_of_getElem? (i := 1601) (by decide +kernel)))
      have hW : vx_W p l e (mm_rm (d + 1) h h1 g g1) s m ([Value.ref x, .int p0, .int p1, .ref o].map (mm_lv N0 od)).toArray below meth c T'.heap ([] ++ L) (0 + mm_mc h h1 g g1) (0 + mm_ms h h1 g g1) (MQ below (mm_Qc N0 od cy D (some (.int (bif Nat.beq 13 13 then 1 else 2))) h1) ([Value.ref x, .int p0, .int p1, .ref o].map (mm_lv N0 od)).toArray s (mm_mc h h1 g g1) (mm_ms h h1 g g1) (mm_A N0)) (F0 m 5 ls [.int (0), .ref (N0 + o)]) qa := by
        refine vx_catch (own := RL) (name := "java/lang/IndexOutOfBoundsException") (E := "java/lang/IndexOutOfBoundsException") hown [] ⟨0, 10, 13, 13⟩ [⟨0, 10, 17, 15⟩] htab (fun z hz => by cases hz) (by decide) (by decide) (hts _ mm_x5) hcast (by rw [e1]; exact hce) hcv hcl ?_
        refine lv_astore hx hb dL_c13 hl0 (by decide) rfl (fun ls' hl1 => ?_)
        refine lv_iconst hx hb dL_c15 rfl ?_
        refine W.cs (cells' := mm_mc h h1 g g1) (slots' := mm_ms h h1 g g1) (by omega) (by omega) ?_
        exact W.iret hx hb B.returns (fun t ht _ => ⟨rfl, by rw [ht]; exact hP1, hS1.F ht⟩) hS1.2.2 dL_c16 B.notSynchronized
      obtain ⟨t2, a1, b1⟩ := hW T' rfl X'
      exact ⟨t2, hsteps.trans a1, b1⟩
    · have hE : E = "java/util/NoSuchElementException" := hE
      subst hE
      have hcast : (Cond.castable "java/util/NoSuchElementException" "java/util/NoSuchElementException").before ([Value.ref x, .int p0, .int p1, .ref o].map (mm_lv N0 od)).toArray s = true := va_Nw.use rfl (hK.2.2.2.2.2.2.1 _ _ (List.mem_of_getElem? (i := 1675) (by decide +kernel)))
      have hW : vx_W p l e (mm_rm (d + 1) h h1 g g1) s m ([Value.ref x, .int p0, .int p1, .ref o].map (mm_lv N0 od)).toArray below meth c T'.heap ([] ++ L) (0 + mm_mc h h1 g g1) (0 + mm_ms h h1 g g1) (MQ below (mm_Qc N0 od cy D (some (.int (bif Nat.beq 14 13 then 1 else 2))) h1) ([Value.ref x, .int p0, .int p1, .ref o].map (mm_lv N0 od)).toArray s (mm_mc h h1 g g1) (mm_ms h h1 g g1) (mm_A N0)) (F0 m 5 ls [.int (0), .ref (N0 + o)]) qa := by
        refine vx_catch (own := RL) (name := "java/util/NoSuchElementException") (E := "java/util/NoSuchElementException") hown [⟨0, 10, 13, 13⟩] ⟨0, 10, 17, 15⟩ [] htab (fun z hz => by cases List.mem_singleton.mp hz; exact Or.inr ⟨by decide, "java/lang/IndexOutOfBoundsException", hts _ mm_x5, hK.2.2.2.2.2.2.2.2.2.2⟩) (by decide) (by decide) (hts _ mm_x6) hcast (by rw [e1]; exact hce) hcv hcl ?_
        refine lv_astore hx hb dL_c17 hl0 (by decide) rfl (fun ls' hl1 => ?_)
        refine lv_iconst hx hb dL_c19 rfl ?_
        refine W.cs (cells' := mm_mc h h1 g g1) (slots' := mm_ms h h1 g g1) (by omega) (by omega) ?_
        exact W.iret hx hb B.returns (fun t ht _ => ⟨rfl, by rw [ht]; exact hP1, hS1.F ht⟩) hS1.2.2 dL_c20 B.notSynchronized
      obtain ⟨t2, a1, b1⟩ := hW T' rfl X'
      exact ⟨t2, hsteps.trans a1, b1⟩
end XMET
