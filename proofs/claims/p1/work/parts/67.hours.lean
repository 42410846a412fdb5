/-! ONE CALL AT MOST -/
def fb_S12 : fx_Orc := fun a => match a with
  | 39 => some (fb_pm 76)
  | _ => none
def fb_S13 : fx_Orc := fun a => match a with
  | 39 => some (fb_pm 94)
  | 266 => some (fb_gs 196)
  | _ => none
theorem fb_okS12 {xs : List Int32} (hxs : xs.length = 6) {SS : List (List Int32) × List (List Nat)} : fx_okS mm_P (0 :: xs, SS) fb_B xs fb_S12 := by
  intro a f N hS hP E args U g K p h hp
  unfold fb_S12 at hS
  split at hS
  · cases hS
    cases (show some mc_X3_passMany = some N from hP)
    exact fb_pm_ok hxs h hp
  · cases hS
theorem fb_okS13 {xs : List Int32} (hxs : xs.length = 6) {SS : List (List Int32) × List (List Nat)} : fx_okS mm_P (0 :: xs, SS) fb_B xs fb_S13 := by
  intro a f N hS hP E args U g K p h hp
  unfold fb_S13 at hS
  split at hS
  · cases hS
    cases (show some mc_X3_passMany = some N from hP)
    exact fb_pm_ok hxs h hp
  · cases hS
    cases (show some mc_X12_goesOn = some N from hP)
    exact fb_gs_ok hxs h hp
  · cases hS
def fb_opS (S : fx_Orc) (n k : Nat) : Bool := fx_run mm_P fb_L S n fb_E 200 mc_L_law 40 fb_r [.inl (.int (Int32.ofNat k))] [] 0 fb_K
def fb_S24 : fx_Orc := fun a => match a with
  | 356 => some fb_fl
  | _ => none
theorem fb_okS24 {xs : List Int32} {SS : List (List Int32) × List (List Nat)} : fx_okS mm_P (0 :: xs, SS) fb_B xs fb_S24 := by
  intro a f N hS hP E args U g K p h hp
  unfold fb_S24 at hS
  split at hS
  · cases hS
    cases (show some mc_J7_fill_53178 = some N from hP)
    exact fb_fl_ok h hp
  · cases hS
theorem fb_op_13 : fb_opS fb_S13 20000 13 = true := by decide +kernel
theorem fb_op_42 : fb_opS fb_S13 20000 42 = true := by decide +kernel
theorem fb_op_24 : fb_opS fb_S24 20000 24 = true := by decide +kernel
theorem fb_op_25 : fb_opS fb_S24 20000 25 = true := by decide +kernel
