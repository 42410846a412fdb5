theorem fb_op_12 : fb_opS fb_S12 200000 12 = true := by decide +kernel
