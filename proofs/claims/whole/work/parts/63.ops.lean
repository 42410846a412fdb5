theorem fb_op_24 : fb_op 24 = true := by decide +kernel
theorem fb_op_25 : fb_op 25 = true := by decide +kernel
