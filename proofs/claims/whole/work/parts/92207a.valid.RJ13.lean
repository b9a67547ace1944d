/-! the tables of java/lang/Long are what its class file says -/
theorem vc_J13_bitCount_95d88 : xl_J13_bitCount_95d88.all (xm_ckb vwCl RJ13 cJ13_bitCount_95d88 false xk_J13 xt []) = true := by decide +kernel
