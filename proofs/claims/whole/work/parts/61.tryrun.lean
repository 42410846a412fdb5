def fb_E : fx_Env := [fx_top, fx_top, fx_top, fx_top, fx_top, fx_top]
def fb_r : fx_Loc := [some (.inl (.retAddr 0)), some (.inl (.ref 0)), some (.inl (.ref 174)), some (.inl (.ref 231)), some (.inl (.int 0)), none, none]
def fb_K : fx_K := fun _ v _ g => match v with
  | some (.inl (.int x)) => decide (x = 1) && Nat.ble g 2
  | _ => false
def fb_S0 : fx_Orc := fun _ => none
theorem fb_t1 : fx_run mm_P fb_L fb_S0 3000 fb_E 200 mc_L_law 40 fb_r [.inl (.int 5)] [] 0 fb_K = true := by decide +kernel
theorem fb_t2 : fx_run mm_P fb_L fb_S0 3000 fb_E 200 mc_L_law 40 fb_r [.inl (.int 2)] [] 0 fb_K = true := by decide +kernel
