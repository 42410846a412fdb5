/-! THE CONSTRUCTORS, by the kernel -/
def fb_h0 : mm_Heap := [.inl (11, (mm_fts.getD 11 []).map mm_def)]
def fb_h1 : mm_Heap := fb_B.take 174 ++ [.inl (12, (mm_fts.getD 12 []).map mm_def)]
theorem fb_initX : fx_end (mm_run mm_P ([], mm_sb, mm_fts) 30000 100 mc_X11_init 0 (mm_entry (mm_maxL mc_X11_init) [.ref 0]) [] fb_h0 0) (fb_B.take 174) = true := by decide +kernel
theorem fb_initM : fx_end (mm_run mm_P ([], mm_sb, mm_fts) 30000 100 mc_X12_init 0 (mm_entry (mm_maxL mc_X12_init) [.ref 174]) [] fb_h1 0) (fb_B.take 231) = true := by decide +kernel
theorem fb_tail : fb_B.take 231 ++ [.inr (.inr (List.replicate 1 0))] = fb_B := fx_leq_spec (fun _ _ => fx_ceq_spec) _ _ (by decide +kernel)
theorem fb_l174 : (fb_B.take 174).length = 174 := Nat.eq_of_beq_eq_true (by decide +kernel)
theorem fb_l231 : (fb_B.take 231).length = 231 := Nat.eq_of_beq_eq_true (by decide +kernel)
theorem fb_l232 : fb_B.length = 232 := Nat.eq_of_beq_eq_true (by decide +kernel)
theorem fb_sz : Nat.ble (mm_sz fb_B + 12) 7293033 = true := by decide +kernel
