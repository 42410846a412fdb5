/-! ONE CALL ON THE FRESH OBJECTS: every operation but those of promises 14, 15, 44, on any arguments (by the kernel) -/
def fb_E : fx_Env := [fx_top, fx_top, fx_top, fx_top, fx_top, fx_top]
def fb_r : fx_Loc := [some (.inl (.retAddr 0)), some (.inl (.ref 0)), some (.inl (.ref 174)), some (.inl (.ref 231)), some (.inl (.int 0)), none, none]
def fb_K : fx_K := fun _ v _ g => match v with
  | some (.inl (.int x)) => decide (x = 1) && Nat.ble g 2
  | _ => false
def fb_S0 : fx_Orc := fun _ => none
def fb_op (k : Nat) : Bool := fx_run mm_P fb_L fb_S0 12000 fb_E 200 mc_L_law 40 fb_r [.inl (.int (Int32.ofNat k))] [] 0 fb_K
theorem fb_op_0 : fb_op 0 = true := by decide +kernel
theorem fb_op_1 : fb_op 1 = true := by decide +kernel
theorem fb_op_2 : fb_op 2 = true := by decide +kernel
theorem fb_op_3 : fb_op 3 = true := by decide +kernel
theorem fb_op_4 : fb_op 4 = true := by decide +kernel
theorem fb_op_5 : fb_op 5 = true := by decide +kernel
theorem fb_op_6 : fb_op 6 = true := by decide +kernel
theorem fb_op_7 : fb_op 7 = true := by decide +kernel
theorem fb_op_8 : fb_op 8 = true := by decide +kernel
theorem fb_op_9 : fb_op 9 = true := by decide +kernel
theorem fb_op_10 : fb_op 10 = true := by decide +kernel
theorem fb_op_11 : fb_op 11 = true := by decide +kernel
theorem fb_op_14 : fb_op 14 = true := by decide +kernel
theorem fb_op_15 : fb_op 15 = true := by decide +kernel
theorem fb_op_16 : fb_op 16 = true := by decide +kernel
theorem fb_op_17 : fb_op 17 = true := by decide +kernel
theorem fb_op_18 : fb_op 18 = true := by decide +kernel
theorem fb_op_19 : fb_op 19 = true := by decide +kernel
theorem fb_op_20 : fb_op 20 = true := by decide +kernel
theorem fb_op_21 : fb_op 21 = true := by decide +kernel
theorem fb_op_22 : fb_op 22 = true := by decide +kernel
theorem fb_op_23 : fb_op 23 = true := by decide +kernel
theorem fb_op_26 : fb_op 26 = true := by decide +kernel
theorem fb_op_27 : fb_op 27 = true := by decide +kernel
theorem fb_op_28 : fb_op 28 = true := by decide +kernel
theorem fb_op_29 : fb_op 29 = true := by decide +kernel
theorem fb_op_30 : fb_op 30 = true := by decide +kernel
theorem fb_op_31 : fb_op 31 = true := by decide +kernel
theorem fb_op_32 : fb_op 32 = true := by decide +kernel
theorem fb_op_33 : fb_op 33 = true := by decide +kernel
theorem fb_op_34 : fb_op 34 = true := by decide +kernel
theorem fb_op_35 : fb_op 35 = true := by decide +kernel
theorem fb_op_36 : fb_op 36 = true := by decide +kernel
theorem fb_op_37 : fb_op 37 = true := by decide +kernel
theorem fb_op_38 : fb_op 38 = true := by decide +kernel
theorem fb_op_39 : fb_op 39 = true := by decide +kernel
theorem fb_op_40 : fb_op 40 = true := by decide +kernel
theorem fb_op_41 : fb_op 41 = true := by decide +kernel
theorem fb_op_43 : fb_op 43 = true := by decide +kernel
theorem fb_op_44 : fb_op 44 = true := by decide +kernel
theorem fb_op_45 : fb_op 45 = true := by decide +kernel
theorem fb_op_46 : fb_op 46 = true := by decide +kernel
theorem fb_op_rest : fx_run mm_P fb_L fb_S0 12000 (fb_E ++ [(47, 63)]) 200 mc_L_law 40 fb_r [.inr (6, 0)] [] 0 fb_K = true := by decide +kernel
