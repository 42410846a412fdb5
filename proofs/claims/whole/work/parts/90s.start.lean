section
variable {xs : List Int32} {d F : Nat} {R : mm_Res × mm_Heap × Nat} {hA hB hC h0 h1 h : mm_Heap}
theorem fc_s21 (H : mm_run mm_P (mm_O xs) F (d + 1) mc_L_law 23 [some (.retAddr 0), some (.ref 0), some (.ref 174), some (.ref 231), some (.int 0), none, none] [] h 0 = some R) : mm_run mm_P (mm_O xs) (F + 1) (d + 1) mc_L_law 21 [some (.retAddr 0), some (.ref 0), some (.ref 174), some (.ref 231), none, none, none] [.int 0] h 0 = some R := by
  rw [mm_run_succ]
  exact H
theorem fc_s20 (H : mm_run mm_P (mm_O xs) F (d + 1) mc_L_law 21 [some (.retAddr 0), some (.ref 0), some (.ref 174), some (.ref 231), none, none, none] [.int 0] h 0 = some R) : mm_run mm_P (mm_O xs) (F + 1) (d + 1) mc_L_law 20 [some (.retAddr 0), some (.ref 0), some (.ref 174), some (.ref 231), none, none, none] [] h 0 = some R := by
  rw [mm_run_succ]
  exact H
theorem fc_s19 (H : mm_run mm_P (mm_O xs) F (d + 1) mc_L_law 20 [some (.retAddr 0), some (.ref 0), some (.ref 174), some (.ref 231), none, none, none] [] h 0 = some R) : mm_run mm_P (mm_O xs) (F + 1) (d + 1) mc_L_law 19 [some (.retAddr 0), some (.ref 0), some (.ref 174), none, none, none, none] [.ref 231] h 0 = some R := by
  rw [mm_run_succ]
  exact H
theorem fc_s17 (lB : hB.length = 231) (hT : hB ++ [.inr (.inr (List.replicate 1 0))] = hC) (H : mm_run mm_P (mm_O xs) F (d + 1) mc_L_law 19 [some (.retAddr 0), some (.ref 0), some (.ref 174), none, none, none, none] [.ref 231] hC 0 = some R) : mm_run mm_P (mm_O xs) (F + 1) (d + 1) mc_L_law 17 [some (.retAddr 0), some (.ref 0), some (.ref 174), none, none, none, none] [.int 1] hB 0 = some R := by
  rw [mm_run_succ]
  show mm_run mm_P (mm_O xs) F (d + 1) mc_L_law 19 [some (.retAddr 0), some (.ref 0), some (.ref 174), none, none, none, none] [.ref hB.length] (hB ++ [.inr (.inr (List.replicate 1 0))]) 0 = _
  rw [lB, hT]
  exact H
theorem fc_s16 (H : mm_run mm_P (mm_O xs) F (d + 1) mc_L_law 17 [some (.retAddr 0), some (.ref 0), some (.ref 174), none, none, none, none] [.int 1] h 0 = some R) : mm_run mm_P (mm_O xs) (F + 1) (d + 1) mc_L_law 16 [some (.retAddr 0), some (.ref 0), some (.ref 174), none, none, none, none] [] h 0 = some R := by
  rw [mm_run_succ]
  exact H
theorem fc_s15 (H : mm_run mm_P (mm_O xs) F (d + 1) mc_L_law 16 [some (.retAddr 0), some (.ref 0), some (.ref 174), none, none, none, none] [] h 0 = some R) : mm_run mm_P (mm_O xs) (F + 1) (d + 1) mc_L_law 15 [some (.retAddr 0), some (.ref 0), none, none, none, none, none] [.ref 174] h 0 = some R := by
  rw [mm_run_succ]
  exact H
theorem fc_s12 (hM : mm_run mm_P (mm_O xs) F d mc_X12_init 0 (mm_entry (mm_maxL mc_X12_init) [.ref 174]) [] h1 0 = some (none, hB, 0)) (H : mm_run mm_P (mm_O xs) F (d + 1) mc_L_law 15 [some (.retAddr 0), some (.ref 0), none, none, none, none, none] [.ref 174] hB 0 = some R) : mm_run mm_P (mm_O xs) (F + 1) (d + 1) mc_L_law 12 [some (.retAddr 0), some (.ref 0), none, none, none, none, none] [.ref 174, .ref 174] h1 0 = some R := by
  rw [mm_run_succ]
  show (match mm_run mm_P (mm_O xs) F d mc_X12_init 0 (mm_entry (mm_maxL mc_X12_init) [.ref 174]) [] h1 0 with
    | some (v, h', g') => (match mm_val v with
      | some vs => mm_run mm_P (mm_O xs) F (d + 1) mc_L_law 15 [some (.retAddr 0), some (.ref 0), none, none, none, none, none] (vs ++ [Value.ref 174]) h' g'
      | none => none)
    | none => none) = _
  rw [hM]
  exact H
theorem fc_s11 (H : mm_run mm_P (mm_O xs) F (d + 1) mc_L_law 12 [some (.retAddr 0), some (.ref 0), none, none, none, none, none] [.ref 174, .ref 174] h 0 = some R) : mm_run mm_P (mm_O xs) (F + 1) (d + 1) mc_L_law 11 [some (.retAddr 0), some (.ref 0), none, none, none, none, none] [.ref 174] h 0 = some R := by
  rw [mm_run_succ]
  exact H
theorem fc_s8 (lA : hA.length = 174) (e1 : h1 = hA ++ [.inl (12, (mm_fts.getD 12 []).map mm_def)]) (H : mm_run mm_P (mm_O xs) F (d + 1) mc_L_law 11 [some (.retAddr 0), some (.ref 0), none, none, none, none, none] [.ref 174] h1 0 = some R) : mm_run mm_P (mm_O xs) (F + 1) (d + 1) mc_L_law 8 [some (.retAddr 0), some (.ref 0), none, none, none, none, none] [] hA 0 = some R := by
  rw [mm_run_succ]
  show mm_run mm_P (mm_O xs) F (d + 1) mc_L_law 11 [some (.retAddr 0), some (.ref 0), none, none, none, none, none] [.ref hA.length] (hA ++ [.inl (12, (mm_fts.getD 12 []).map mm_def)]) 0 = _
  rw [lA, ← e1]
  exact H
theorem fc_s7 (H : mm_run mm_P (mm_O xs) F (d + 1) mc_L_law 8 [some (.retAddr 0), some (.ref 0), none, none, none, none, none] [] h 0 = some R) : mm_run mm_P (mm_O xs) (F + 1) (d + 1) mc_L_law 7 [some (.retAddr 0), none, none, none, none, none, none] [.ref 0] h 0 = some R := by
  rw [mm_run_succ]
  exact H
theorem fc_s4 (hX : mm_run mm_P (mm_O xs) F d mc_X11_init 0 (mm_entry (mm_maxL mc_X11_init) [.ref 0]) [] h0 0 = some (none, hA, 0)) (H : mm_run mm_P (mm_O xs) F (d + 1) mc_L_law 7 [some (.retAddr 0), none, none, none, none, none, none] [.ref 0] hA 0 = some R) : mm_run mm_P (mm_O xs) (F + 1) (d + 1) mc_L_law 4 [some (.retAddr 0), none, none, none, none, none, none] [.ref 0, .ref 0] h0 0 = some R := by
  rw [mm_run_succ]
  show (match mm_run mm_P (mm_O xs) F d mc_X11_init 0 (mm_entry (mm_maxL mc_X11_init) [.ref 0]) [] h0 0 with
    | some (v, h', g') => (match mm_val v with
      | some vs => mm_run mm_P (mm_O xs) F (d + 1) mc_L_law 7 [some (.retAddr 0), none, none, none, none, none, none] (vs ++ [Value.ref 0]) h' g'
      | none => none)
    | none => none) = _
  rw [hX]
  exact H
theorem fc_s3 (H : mm_run mm_P (mm_O xs) F (d + 1) mc_L_law 4 [some (.retAddr 0), none, none, none, none, none, none] [.ref 0, .ref 0] h 0 = some R) : mm_run mm_P (mm_O xs) (F + 1) (d + 1) mc_L_law 3 [some (.retAddr 0), none, none, none, none, none, none] [.ref 0] h 0 = some R := by
  rw [mm_run_succ]
  exact H
theorem fc_s0 (e0 : h0 = [.inl (11, (mm_fts.getD 11 []).map mm_def)]) (H : mm_run mm_P (mm_O xs) F (d + 1) mc_L_law 3 [some (.retAddr 0), none, none, none, none, none, none] [.ref 0] h0 0 = some R) : mm_run mm_P (mm_O xs) (F + 1) (d + 1) mc_L_law 0 [some (.retAddr 0), none, none, none, none, none, none] [] [] 0 = some R := by
  rw [mm_run_succ]
  show mm_run mm_P (mm_O xs) F (d + 1) mc_L_law 3 [some (.retAddr 0), none, none, none, none, none, none] [.ref 0] [.inl (11, (mm_fts.getD 11 []).map mm_def)] 0 = _
  rw [← e0]
  exact H
end
theorem fc_lift {xs : List Int32} {d n : Nat} (hd : 100 ≤ d) {M : mm_Meth} {r : mm_Loc} {h h' : mm_Heap} (H : mm_run mm_P ([], mm_sb, mm_fts) n 100 M 0 r [] h 0 = some (none, h', 0)) {F : Nat} (hF : n ≤ F) : mm_run mm_P (mm_O xs) F d M 0 r [] h 0 = some (none, h', 0) := by
  have := mm_run_le (O := ([], mm_sb, mm_fts)) (O' := mm_O xs) ⟨rfl, Or.inl rfl⟩ n (F - n) 100 d _ _ _ _ _ _ _ hd H
  rw [show n + (F - n) = F by omega] at this
  exact this
theorem fc_start0 (xs : List Int32) {d : Nat} (hd : 100 ≤ d) {hA hB hC h0 h1 : mm_Heap} (e0 : h0 = [.inl (11, (mm_fts.getD 11 []).map mm_def)]) (e1 : h1 = hA ++ [.inl (12, (mm_fts.getD 12 []).map mm_def)]) (lA : hA.length = 174) (lB : hB.length = 231) (hT : hB ++ [.inr (.inr (List.replicate 1 0))] = hC) {w : Nat}
    (rX : mm_run mm_P ([], mm_sb, mm_fts) w 100 mc_X11_init 0 (mm_entry (mm_maxL mc_X11_init) [.ref 0]) [] h0 0 = some (none, hA, 0))
    (rM : mm_run mm_P ([], mm_sb, mm_fts) w 100 mc_X12_init 0 (mm_entry (mm_maxL mc_X12_init) [.ref 174]) [] h1 0 = some (none, hB, 0))
    {R : mm_Res × mm_Heap × Nat} {n : Nat} (h : mm_run mm_P (mm_O xs) n (d + 1) mc_L_law 23 [some (.retAddr 0), some (.ref 0), some (.ref 174), some (.ref 231), some (.int 0), none, none] [] hC 0 = some R) : ∃ m, mm_run mm_P (mm_O xs) m (d + 1) mc_L_law 0 (mm_entry 7 [.retAddr 0]) [] [] 0 = some R := by
  have s23 := mm_run_ge (Nat.le_add_right n w) (Nat.le_refl _) h
  have s12 := fc_s12 (fc_lift hd rM (by omega)) (fc_s15 (fc_s16 (fc_s17 lB hT (fc_s19 (fc_s20 (fc_s21 s23))))))
  have s4 := fc_s4 (fc_lift hd rX (by omega)) (fc_s7 (fc_s8 lA e1 (fc_s11 s12)))
  exact ⟨_, fc_s0 e0 (fc_s3 s4)⟩
theorem fc_start (xs : List Int32) {d : Nat} (hd : 100 ≤ d) {R : mm_Res × mm_Heap × Nat} {n : Nat} (h : mm_run mm_P (mm_O xs) n (d + 1) mc_L_law 23 [some (.retAddr 0), some (.ref 0), some (.ref 174), some (.ref 231), some (.int 0), none, none] [] fb_B 0 = some R) : ∃ m, mm_run mm_P (mm_O xs) m (d + 1) mc_L_law 0 (mm_entry 7 [.retAddr 0]) [] [] 0 = some R :=
  fc_start0 xs hd (h0 := fb_h0) (h1 := fb_h1) (hA := fb_B.take 174) (hB := fb_B.take 231) (hC := fb_B) rfl rfl fb_l174 fb_l231 fb_tail (fx_end_spec fb_initX) (fx_end_spec fb_initM) h
