theorem hq_iinc {O : mm_Old} {d : Nat} {M : mm_Meth} {pc i a b c : Nat} {z : Int} {r : mm_Loc} {st : List Value} {s s' : hq_S} {g : Nat} {v : mm_Res} {x : Int32} (y : Int32) (r' : mm_Loc) (hat : mm_at (mm_rows M) pc = some (.iinc i z, 3, a, b, c)) (hg : mm_get r i = some (.int x)) (hy : x + Int32.ofInt z = y) (hp : mm_put1 r i (.int y) = some r') (H : hq_R O d M (pc + 3) r' st s g v s') : hq_R O d M pc r st s g v s' := by
  obtain ⟨n, hn⟩ := H
  refine ⟨n + 1, ?_⟩
  generalize hq_hp s = h at hn ⊢
  rw [mm_run_succ]
  unfold mm_body
  rw [hat]
  simp only [mm_isNew, Bool.false_and, cond_false, mm_step]
  rw [hg]
  dsimp only
  rw [hy, hp]
  exact hn
