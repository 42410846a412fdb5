/-! THE CLASSES of the world, checked -/
def mm_chkC (a : Nat) : Bool := match vwCl[a]?, mm_fts[a]?, mm_fpos[a]?, mm_cpos[a]? with
  | some z, some fs, some ps, some cp => Nat.beq fs.length z.2.2 && ((List.range z.2.2).all (fun k => mm_has (u_lay z.1 z.2.1 k) (ps.getD k 0) && mm_ptc (z.2.1 k).2.2.1 (fs.getD k 0)) && (mm_has (.instantiable z.1 z.2.2) cp.1 && mm_has (.initialized z.1) cp.2))
  | _, _, _, _ => false
theorem mm_chkC_spec {a : Nat} (h : mm_chkC a = true) {C : String} {T : u_T} {N : Nat} (hz : vwCl[a]? = some (C, T, N)) :
    (∀ w ∈ u_ws C T N, w ∈ lw_g) ∧ Cond.instantiable C N ∈ lw_g ∧ Cond.initialized C ∈ lw_g ∧ ∀ fs : List Nat, mm_fts[a]? = some fs → fs.length = N ∧ ∀ k, k < N → ∀ ty, parseFieldDescriptor (T k).2.2.1 = some ty → mm_tc (fs.getD k 0) ty := by
  unfold mm_chkC at h
  split at h
  · next z fs ps cp g1 g2 g3 g4 =>
    rw [hz] at g1
    cases g1
    simp only [Bool.and_eq_true] at h
    obtain ⟨h1, h2, h3, h4⟩ := h
    have hall := List.all_eq_true.mp h2
    refine ⟨fun w hw => ?_, mm_has_in h3, mm_has_in h4, fun fs' hf => ?_⟩
    · obtain ⟨k, hk, rfl⟩ := List.mem_map.mp hw
      exact mm_has_in (Bool.and_eq_true_iff.mp (hall k hk)).1
    · rw [g2] at hf
      cases hf
      refine ⟨Nat.eq_of_beq_eq_true h1, fun k hk ty hty => ?_⟩
      obtain ⟨ty', t1, t2, -⟩ := mm_ptc_spec (Bool.and_eq_true_iff.mp (hall k (List.mem_range.mpr hk))).2
      rw [hty] at t1
      cases t1
      exact t2
  · cases h
theorem mm_cc0 : mm_chkC 0 = true := by decide +kernel
theorem mm_cc1 : mm_chkC 1 = true := by decide +kernel
theorem mm_cc2 : mm_chkC 2 = true := by decide +kernel
theorem mm_cc3 : mm_chkC 3 = true := by decide +kernel
theorem mm_cc4 : mm_chkC 4 = true := by decide +kernel
theorem mm_cc5 : mm_chkC 5 = true := by decide +kernel
theorem mm_cc6 : mm_chkC 6 = true := by decide +kernel
theorem mm_cc7 : mm_chkC 7 = true := by decide +kernel
theorem mm_cc8 : mm_chkC 8 = true := by decide +kernel
theorem mm_cc9 : mm_chkC 9 = true := by decide +kernel
theorem mm_cc10 : mm_chkC 10 = true := by decide +kernel
theorem mm_cc11 : mm_chkC 11 = true := by decide +kernel
theorem mm_cc12 : mm_chkC 12 = true := by decide +kernel
theorem mm_cls_ok : mm_okCls mm_fts := by
  intro a C T N hz
  have hl : a < 13 := (List.getElem?_eq_some_iff.mp hz).1
  match a, hl with
  | 0, _ =>
    obtain ⟨h1, h2, h3, h4⟩ := mm_chkC_spec mm_cc0 hz
    have hz' : some (RX0, TX0, 12) = some (C, T, N) := hz
    cases hz'
    exact ⟨h1, nmX0, h2, h3, tyX0, tyX0_ok, fun fs hf => ⟨(h4 fs hf).1, fun k hk => (h4 fs hf).2 k hk _ (tyX0_ok k hk)⟩⟩
  | 1, _ =>
    obtain ⟨h1, h2, h3, h4⟩ := mm_chkC_spec mm_cc1 hz
    have hz' : some (RX1, TX1, 7) = some (C, T, N) := hz
    cases hz'
    exact ⟨h1, nmX1, h2, h3, tyX1, tyX1_ok, fun fs hf => ⟨(h4 fs hf).1, fun k hk => (h4 fs hf).2 k hk _ (tyX1_ok k hk)⟩⟩
  | 2, _ =>
    obtain ⟨h1, h2, h3, h4⟩ := mm_chkC_spec mm_cc2 hz
    have hz' : some (RX2, TX2, 10) = some (C, T, N) := hz
    cases hz'
    exact ⟨h1, nmX2, h2, h3, tyX2, tyX2_ok, fun fs hf => ⟨(h4 fs hf).1, fun k hk => (h4 fs hf).2 k hk _ (tyX2_ok k hk)⟩⟩
  | 3, _ =>
    obtain ⟨h1, h2, h3, h4⟩ := mm_chkC_spec mm_cc3 hz
    have hz' : some (RX3, TX3, 7) = some (C, T, N) := hz
    cases hz'
    exact ⟨h1, nmX3, h2, h3, tyX3, tyX3_ok, fun fs hf => ⟨(h4 fs hf).1, fun k hk => (h4 fs hf).2 k hk _ (tyX3_ok k hk)⟩⟩
  | 4, _ =>
    obtain ⟨h1, h2, h3, h4⟩ := mm_chkC_spec mm_cc4 hz
    have hz' : some (RX4, TX4, 6) = some (C, T, N) := hz
    cases hz'
    exact ⟨h1, nmX4, h2, h3, tyX4, tyX4_ok, fun fs hf => ⟨(h4 fs hf).1, fun k hk => (h4 fs hf).2 k hk _ (tyX4_ok k hk)⟩⟩
  | 5, _ =>
    obtain ⟨h1, h2, h3, h4⟩ := mm_chkC_spec mm_cc5 hz
    have hz' : some (RX5, TX5, 11) = some (C, T, N) := hz
    cases hz'
    exact ⟨h1, nmX5, h2, h3, tyX5, tyX5_ok, fun fs hf => ⟨(h4 fs hf).1, fun k hk => (h4 fs hf).2 k hk _ (tyX5_ok k hk)⟩⟩
  | 6, _ =>
    obtain ⟨h1, h2, h3, h4⟩ := mm_chkC_spec mm_cc6 hz
    have hz' : some (RX6, TX6, 10) = some (C, T, N) := hz
    cases hz'
    exact ⟨h1, nmX6, h2, h3, tyX6, tyX6_ok, fun fs hf => ⟨(h4 fs hf).1, fun k hk => (h4 fs hf).2 k hk _ (tyX6_ok k hk)⟩⟩
  | 7, _ =>
    obtain ⟨h1, h2, h3, h4⟩ := mm_chkC_spec mm_cc7 hz
    have hz' : some (RX7, TX7, 3) = some (C, T, N) := hz
    cases hz'
    exact ⟨h1, nmX7, h2, h3, tyX7, tyX7_ok, fun fs hf => ⟨(h4 fs hf).1, fun k hk => (h4 fs hf).2 k hk _ (tyX7_ok k hk)⟩⟩
  | 8, _ =>
    obtain ⟨h1, h2, h3, h4⟩ := mm_chkC_spec mm_cc8 hz
    have hz' : some (RX8, TX8, 5) = some (C, T, N) := hz
    cases hz'
    exact ⟨h1, nmX8, h2, h3, tyX8, tyX8_ok, fun fs hf => ⟨(h4 fs hf).1, fun k hk => (h4 fs hf).2 k hk _ (tyX8_ok k hk)⟩⟩
  | 9, _ =>
    obtain ⟨h1, h2, h3, h4⟩ := mm_chkC_spec mm_cc9 hz
    have hz' : some (RX9, TX9, 7) = some (C, T, N) := hz
    cases hz'
    exact ⟨h1, nmX9, h2, h3, tyX9, tyX9_ok, fun fs hf => ⟨(h4 fs hf).1, fun k hk => (h4 fs hf).2 k hk _ (tyX9_ok k hk)⟩⟩
  | 10, _ =>
    obtain ⟨h1, h2, h3, h4⟩ := mm_chkC_spec mm_cc10 hz
    have hz' : some (RX10, TX10, 18) = some (C, T, N) := hz
    cases hz'
    exact ⟨h1, nmX10, h2, h3, tyX10, tyX10_ok, fun fs hf => ⟨(h4 fs hf).1, fun k hk => (h4 fs hf).2 k hk _ (tyX10_ok k hk)⟩⟩
  | 11, _ =>
    obtain ⟨h1, h2, h3, h4⟩ := mm_chkC_spec mm_cc11 hz
    have hz' : some (RX11, TX11, 16) = some (C, T, N) := hz
    cases hz'
    exact ⟨h1, nmX11, h2, h3, tyX11, tyX11_ok, fun fs hf => ⟨(h4 fs hf).1, fun k hk => (h4 fs hf).2 k hk _ (tyX11_ok k hk)⟩⟩
  | 12, _ =>
    obtain ⟨h1, h2, h3, h4⟩ := mm_chkC_spec mm_cc12 hz
    have hz' : some (RX12, TX12, 83) = some (C, T, N) := hz
    cases hz'
    exact ⟨h1, nmX12, h2, h3, tyX12, tyX12_ok, fun fs hf => ⟨(h4 fs hf).1, fun k hk => (h4 fs hf).2 k hk _ (tyX12_ok k hk)⟩⟩
  | a + 13, hl => omega
