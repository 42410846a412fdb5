theorem hq_iinc {O : mm_Old} {d : Nat} {M : mm_Meth} {pc i a b c : Nat} {z : Int} {r : mm_Loc} {st : List Value} {s s' : hq_S} {g : Nat} {v : mm_Res} {x : Int32} (y : Int32) (r' : mm_Loc) (hat : mm_at (mm_rows M) pc = some (.iinc i z, 3, a, b, c)) (hg : mm_get r i = some (.int x)) (hy : x + Int32.ofInt z = y) (hp : mm_put1 r i (.int y) = some r') (H : hq_R O d M (pc + 3) r' st s g v s') : hq_R O d M pc r st s g v s' := by
  obtain ⟨n, hn⟩ := H
  refine ⟨n + 1, ?_⟩
  generalize hq_hp s = h at hn ⊢
  rw [mm_run_succ]
  unfold mm_body
  rw [hat]
  simp only [mm_isNew, Bool.false_and, cond_false, mm_step]
  rw [hg]
  dsimp only
  rw [hy, hp]
  exact hn
section
variable {O : mm_Old} {d : Nat} {M : mm_Meth} {pc q a b c : Nat} {z : Int} {r : mm_Loc} {st : List Value} {s s' : hq_S} {g : Nat} {v : mm_Res}
theorem hq_icn (y : Int32) (hat : mm_at (mm_rows M) pc = some (.iconst z, 1, a, b, c)) (hy : Int32.ofInt z = y) (H : hq_R O d M (pc + 1) r (.int y :: st) s g v s') : hq_R O d M pc r st s g v s' := by
  obtain ⟨n, hn⟩ := H
  refine ⟨n + 1, ?_⟩
  generalize hq_hp s = h at hn ⊢
  rw [mm_run_succ]
  unfold mm_body
  rw [hat]
  simp only [mm_isNew, Bool.false_and, cond_false, mm_step]
  rw [hy]
  exact hn
theorem hq_bip (y : Int32) (hat : mm_at (mm_rows M) pc = some (.bipush z, 2, a, b, c)) (hy : (Int8.ofInt z).toInt32 = y) (H : hq_R O d M (pc + 2) r (.int y :: st) s g v s') : hq_R O d M pc r st s g v s' := by
  obtain ⟨n, hn⟩ := H
  refine ⟨n + 1, ?_⟩
  generalize hq_hp s = h at hn ⊢
  rw [mm_run_succ]
  unfold mm_body
  rw [hat]
  simp only [mm_isNew, Bool.false_and, cond_false, mm_step]
  rw [hy]
  exact hn
theorem hq_sip (y : Int32) (hat : mm_at (mm_rows M) pc = some (.sipush z, 3, a, b, c)) (hy : (Int16.ofInt z).toInt32 = y) (H : hq_R O d M (pc + 3) r (.int y :: st) s g v s') : hq_R O d M pc r st s g v s' := by
  obtain ⟨n, hn⟩ := H
  refine ⟨n + 1, ?_⟩
  generalize hq_hp s = h at hn ⊢
  rw [mm_run_succ]
  unfold mm_body
  rw [hat]
  simp only [mm_isNew, Bool.false_and, cond_false, mm_step]
  rw [hy]
  exact hn
theorem hq_lcn (y : Int32) (hat : mm_at (mm_rows M) pc = some (.ldc q, 2, a, 0, c)) (hy : Int32.ofNat a = y) (H : hq_R O d M (pc + 2) r (.int y :: st) s g v s') : hq_R O d M pc r st s g v s' := by
  obtain ⟨n, hn⟩ := H
  refine ⟨n + 1, ?_⟩
  generalize hq_hp s = h at hn ⊢
  rw [mm_run_succ]
  unfold mm_body
  rw [hat]
  simp only [mm_isNew, Bool.false_and, cond_false, mm_step, Nat.beq_refl, cond_true]
  rw [hy]
  exact hn
theorem hq_lcw (y : Int32) (hat : mm_at (mm_rows M) pc = some (.ldc_w q, 3, a, 0, c)) (hy : Int32.ofNat a = y) (H : hq_R O d M (pc + 3) r (.int y :: st) s g v s') : hq_R O d M pc r st s g v s' := by
  obtain ⟨n, hn⟩ := H
  refine ⟨n + 1, ?_⟩
  generalize hq_hp s = h at hn ⊢
  rw [mm_run_succ]
  unfold mm_body
  rw [hat]
  simp only [mm_isNew, Bool.false_and, cond_false, mm_step, Nat.beq_refl, cond_true]
  rw [hy]
  exact hn
theorem hq_lc2 (y : Int64) (hat : mm_at (mm_rows M) pc = some (.ldc2_w q, 3, a, b, c)) (hy : Int64.ofNat a = y) (H : hq_R O d M (pc + 3) r (.long y :: st) s g v s') : hq_R O d M pc r st s g v s' := by
  obtain ⟨n, hn⟩ := H
  refine ⟨n + 1, ?_⟩
  generalize hq_hp s = h at hn ⊢
  rw [mm_run_succ]
  unfold mm_body
  rw [hat]
  simp only [mm_isNew, Bool.false_and, cond_false, mm_step]
  rw [hy]
  exact hn
end
