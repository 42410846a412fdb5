/-! ALL OPERATIONS -/
section
variable {N : Nat}
theorem ho_0 (hN : 10300 < N) : hq_OpL (fun s => hR hC s s) 0 := hq_op_0 (N := N) (hR_loc hC_loc) (fun a1 a2 a3 a4 a5 => hs_op_0 hC_loc (by omega) a1 a2 a3 a4 a5)
theorem ho_1 (hN : 10300 < N) : hq_OpL (fun s => hR hC s s) 1 := hq_op_1 (N := N) (hR_loc hC_loc) (fun a1 => hs_op_1 hC_loc (by omega) a1)
theorem ho_2 (hN : 10300 < N) : hq_OpL (fun s => hR hC s s) 2 := hq_op_2 (N := N) (hR_loc hC_loc) (fun a1 => hs_op_2 hC_loc a1)
theorem ho_3 (hN : 10300 < N) : hq_OpL (fun s => hR hC s s) 3 := hq_op_3 (N := N) (hR_loc hC_loc) (fun a1 a2 => hs_op_3 hC_loc (by omega) a1 a2)
theorem ho_4 (hN : 10300 < N) : hq_OpL (fun s => hR hC s s) 4 := hq_op_4 hC_loc (N := N) (by omega)
theorem ho_5 (hN : 10300 < N) : hq_OpL (fun s => hR hC s s) 5 := hq_op_5 (N := N) (hR_loc hC_loc) (fun a1 a2 => hs_op_5 hC_loc a1 a2)
theorem ho_6 (hN : 10300 < N) : hq_OpL (fun s => hR hC s s) 6 := hq_op_6 (N := N) (hR_loc hC_loc) (fun a1 a2 => hs_op_6 hC_loc a1 a2)
theorem ho_7 (hN : 10300 < N) : hq_OpL (fun s => hR hC s s) 7 := hq_op_7 (N := N) (hR_loc hC_loc) (fun a1 a2 => hs_op_7 hC_loc a1 a2)
theorem ho_8 (hN : 10300 < N) : hq_OpL (fun s => hR hC s s) 8 := hq_op_8 (N := N) (hR_loc hC_loc) (fun a1 a2 a3 => hs_op_8 hC_loc (by omega) a1 a2 a3)
theorem ho_9 (hN : 10300 < N) : hq_OpL (fun s => hR hC s s) 9 := hq_op_9 (N := N) (hR_loc hC_loc) (fun a1 a2 => hs_op_9 hC_loc (by omega) a1 a2)
theorem ho_10 (hN : 10300 < N) : hq_OpL (fun s => hR hC s s) 10 := hq_op_10 (N := N) (hR_loc hC_loc) (fun a1 => hs_op_10 hC_loc (by omega) a1)
theorem ho_11 (hN : 10300 < N) : hq_OpL (fun s => hR hC s s) 11 := hq_op_11 (N := N) (hR_loc hC_loc) (fun a1 a2 => hs_op_11 hC_loc (by omega) a1 a2)
theorem ho_12 (hN : 10300 < N) : hq_OpL (fun s => hR hC s s) 12 := hq_op_12 (N := N) (hR_loc hC_loc) (fun a1 => hs_op_12 hC_loc (by omega) a1)
theorem ho_13 (hN : 10300 < N) : hq_OpL (fun s => hR hC s s) 13 := hq_op_13 (N := N) (hR_loc hC_loc) (fun a1 a2 a3 => hs_op_13 hC_loc (by omega) a1 a2 a3)
theorem ho_14 (hN : 10300 < N) : hq_OpL (fun s => hR hC s s) 14 := hq_op_14 (N := N) (hR_loc hC_loc) (fun a1 => hs_op_14 hC_loc (by omega) a1)
theorem ho_15 (hN : 10300 < N) : hq_OpL (fun s => hR hC s s) 15 := hq_op_15 (N := N) (hR_loc hC_loc) (fun a1 a2 => hs_op_15 hC_loc (by omega) a1 a2)
theorem ho_16 (hN : 10300 < N) : hq_OpL (fun s => hR hC s s) 16 := hq_op_16 (N := N) (hR_loc hC_loc) (fun a1 a2 a3 => hs_op_16 hC_loc (by omega) a1 a2 a3)
theorem ho_17 (hN : 10300 < N) : hq_OpL (fun s => hR hC s s) 17 := hq_op_17 (N := N) (hR_loc hC_loc) (fun a1 => hs_op_17 hC_loc (by omega) a1)
theorem ho_18 (hN : 10300 < N) : hq_OpL (fun s => hR hC s s) 18 := hq_op_18 (N := N) (hR_loc hC_loc) (hs_op_18 hC_loc (by omega))
theorem ho_19 (hN : 10300 < N) : hq_OpL (fun s => hR hC s s) 19 := hq_op_19 (N := N) (hR_loc hC_loc) (fun a1 a2 => hs_op_19 (by omega) a1 a2)
theorem ho_20 (hN : 10300 < N) : hq_OpL (fun s => hR hC s s) 20 := hq_op_20 (N := N) (hR_loc hC_loc) (fun a1 a2 a3 => hs_op_20 (by omega) a1 a2 a3)
theorem ho_21 (hN : 10300 < N) : hq_OpL (fun s => hR hC s s) 21 := hq_op_21 (N := N) (hR_loc hC_loc) (fun a1 a2 => hs_op_21 (by omega) a1 a2)
theorem ho_22 (hN : 10300 < N) : hq_OpL (fun s => hR hC s s) 22 := hq_op_22 (N := N) (hR_loc hC_loc) (hs_op_22 (by omega))
theorem ho_23 (hN : 10300 < N) : hq_OpL (fun s => hR hC s s) 23 := hq_op_23 (N := N) (hR_loc hC_loc) (fun a1 => hs_op_23 (by omega) a1)
theorem ho_24 (hN : 10300 < N) : hq_OpL (fun s => hR hC s s) 24 := hq_op_24 (N := N) (hR_loc hC_loc) (fun a1 => hs_op_24 hC_loc (by omega) a1)
theorem ho_25 (hN : 10300 < N) : hq_OpL (fun s => hR hC s s) 25 := hq_op_25 (N := N) (hR_loc hC_loc) (fun a1 => hs_op_25 hC_loc (by omega) a1)
theorem ho_26 (hN : 10300 < N) : hq_OpL (fun s => hR hC s s) 26 := hq_op_26 (N := N) (hR_loc hC_loc) (hs_op_26 hC_loc (by omega))
theorem ho_27 (hN : 10300 < N) : hq_OpL (fun s => hR hC s s) 27 := hq_op_27 (N := N) (hR_loc hC_loc) (fun a1 a2 => hs_op_27 hC_loc (by omega) a1 a2)
theorem ho_28 (hN : 10300 < N) : hq_OpL (fun s => hR hC s s) 28 := hq_op_28 (N := N) (hR_loc hC_loc) (fun a1 => hs_op_28 hC_loc (by omega) a1)
theorem ho_29 (hN : 10300 < N) : hq_OpL (fun s => hR hC s s) 29 := hq_op_29 (N := N) (hR_loc hC_loc) (fun a1 => hs_op_29 hC_loc (by omega) a1)
theorem ho_30 (hN : 10300 < N) : hq_OpL (fun s => hR hC s s) 30 := hq_op_30 (N := N) (hR_loc hC_loc) (fun a1 a2 => hs_op_30 hC_loc (by omega) a1 a2)
theorem ho_31 (hN : 10300 < N) : hq_OpL (fun s => hR hC s s) 31 := hq_op_31 (N := N) (hR_loc hC_loc) (fun a1 a2 a3 a4 => hs_op_31 hC_loc (by omega) a1 a2 a3 a4)
theorem ho_32 (hN : 10300 < N) : hq_OpL (fun s => hR hC s s) 32 := hq_op_32 (N := N) (hR_loc hC_loc) (fun a1 => hs_op_32 hC_loc (by omega) a1)
theorem ho_33 (hN : 10300 < N) : hq_OpL (fun s => hR hC s s) 33 := hq_op_33 (N := N) (hR_loc hC_loc) (fun a1 a2 => hs_op_33 hC_loc (by omega) a1 a2)
theorem ho_34 (hN : 10300 < N) : hq_OpL (fun s => hR hC s s) 34 := hq_op_34 (N := N) (hR_loc hC_loc) (fun a1 a2 a3 => hs_op_34 hC_loc (by omega) a1 a2 a3)
theorem ho_35 (hN : 10300 < N) : hq_OpL (fun s => hR hC s s) 35 := hq_op_35 (N := N) (hR_loc hC_loc) (fun a1 a2 => hs_op_35 hC_loc (by omega) a1 a2)
theorem ho_36 (hN : 10300 < N) : hq_OpL (fun s => hR hC s s) 36 := hq_op_36 (N := N) (hR_loc hC_loc) (fun a1 a2 a3 a4 h => hs_op_36 hC_loc a1 a2 a3 a4 h)
theorem ho_37 (hN : 10300 < N) : hq_OpL (fun s => hR hC s s) 37 := hq_op_37 (N := N) (hR_loc hC_loc) (fun a1 => hs_op_37 hC_loc a1)
theorem ho_38 (hN : 10300 < N) : hq_OpL (fun s => hR hC s s) 38 := hq_op_38 (N := N) (hR_loc hC_loc) (fun a1 => hs_op_38 hC_loc a1)
theorem ho_39 (hN : 10300 < N) : hq_OpL (fun s => hR hC s s) 39 := hq_op_39 (N := N) (hR_loc hC_loc) (fun a1 => hs_op_39 hC_loc (by omega) a1)
theorem ho_40 (hN : 10300 < N) : hq_OpL (fun s => hR hC s s) 40 := hq_op_40 (N := N) (hR_loc hC_loc) (fun a1 a2 => hs_op_40 hC_loc (by omega) a1 a2)
theorem ho_41 (hN : 10300 < N) : hq_OpL (fun s => hR hC s s) 41 := hq_op_41 (N := N) (hR_loc hC_loc) (fun a1 a2 a3 => hs_op_41 hC_loc (by omega) a1 a2 a3)
theorem ho_42 (hN : 10300 < N) : hq_OpL (fun s => hR hC s s) 42 := hq_op_42 (N := N) (hR_loc hC_loc) (fun a1 a2 a3 => hs_op_42 hC_loc (by omega) a1 a2 a3)
theorem ho_43 (hN : 10300 < N) : hq_OpL (fun s => hR hC s s) 43 := hq_op_43 (N := N) (hR_loc hC_loc) (hs_op_43 hC_loc (by omega))
theorem ho_44 (hN : 10300 < N) : hq_OpL (fun s => hR hC s s) 44 := hq_op_44 (N := N) (hR_loc hC_loc) (hs_op_44 hC_loc (by omega))
theorem ho_45 (hN : 10300 < N) : hq_OpL (fun s => hR hC s s) 45 := hq_op_45 (N := N) (hR_loc hC_loc) (hs_op_45 hC_loc (by omega))
theorem ho_46 (hN : 10300 < N) : hq_OpL (fun s => hR hC s s) 46 := hq_op_46 (N := N) (hR_loc hC_loc) (fun a1 => hs_op_46 hC_loc (by omega) a1)
theorem ho_all (hN : 10300 < N) : ∀ k, k < 47 → hq_OpL (fun s => hR hC s s) k := by
  intro k hk
  rcases (show k = 0 ∨ k = 1 ∨ k = 2 ∨ k = 3 ∨ k = 4 ∨ k = 5 ∨ k = 6 ∨ k = 7 ∨ k = 8 ∨ k = 9 ∨ k = 10 ∨ k = 11 ∨ k = 12 ∨ k = 13 ∨ k = 14 ∨ k = 15 ∨ k = 16 ∨ k = 17 ∨ k = 18 ∨ k = 19 ∨ k = 20 ∨ k = 21 ∨ k = 22 ∨ k = 23 ∨ k = 24 ∨ k = 25 ∨ k = 26 ∨ k = 27 ∨ k = 28 ∨ k = 29 ∨ k = 30 ∨ k = 31 ∨ k = 32 ∨ k = 33 ∨ k = 34 ∨ k = 35 ∨ k = 36 ∨ k = 37 ∨ k = 38 ∨ k = 39 ∨ k = 40 ∨ k = 41 ∨ k = 42 ∨ k = 43 ∨ k = 44 ∨ k = 45 ∨ k = 46 by omega) with e | e | e | e | e | e | e | e | e | e | e | e | e | e | e | e | e | e | e | e | e | e | e | e | e | e | e | e | e | e | e | e | e | e | e | e | e | e | e | e | e | e | e | e | e | e | e
  · rw [e]; exact ho_0 hN
  · rw [e]; exact ho_1 hN
  · rw [e]; exact ho_2 hN
  · rw [e]; exact ho_3 hN
  · rw [e]; exact ho_4 hN
  · rw [e]; exact ho_5 hN
  · rw [e]; exact ho_6 hN
  · rw [e]; exact ho_7 hN
  · rw [e]; exact ho_8 hN
  · rw [e]; exact ho_9 hN
  · rw [e]; exact ho_10 hN
  · rw [e]; exact ho_11 hN
  · rw [e]; exact ho_12 hN
  · rw [e]; exact ho_13 hN
  · rw [e]; exact ho_14 hN
  · rw [e]; exact ho_15 hN
  · rw [e]; exact ho_16 hN
  · rw [e]; exact ho_17 hN
  · rw [e]; exact ho_18 hN
  · rw [e]; exact ho_19 hN
  · rw [e]; exact ho_20 hN
  · rw [e]; exact ho_21 hN
  · rw [e]; exact ho_22 hN
  · rw [e]; exact ho_23 hN
  · rw [e]; exact ho_24 hN
  · rw [e]; exact ho_25 hN
  · rw [e]; exact ho_26 hN
  · rw [e]; exact ho_27 hN
  · rw [e]; exact ho_28 hN
  · rw [e]; exact ho_29 hN
  · rw [e]; exact ho_30 hN
  · rw [e]; exact ho_31 hN
  · rw [e]; exact ho_32 hN
  · rw [e]; exact ho_33 hN
  · rw [e]; exact ho_34 hN
  · rw [e]; exact ho_35 hN
  · rw [e]; exact ho_36 hN
  · rw [e]; exact ho_37 hN
  · rw [e]; exact ho_38 hN
  · rw [e]; exact ho_39 hN
  · rw [e]; exact ho_40 hN
  · rw [e]; exact ho_41 hN
  · rw [e]; exact ho_42 hN
  · rw [e]; exact ho_43 hN
  · rw [e]; exact ho_44 hN
  · rw [e]; exact ho_45 hN
  · rw [e]; exact ho_46 hN
end
