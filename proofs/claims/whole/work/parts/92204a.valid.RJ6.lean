/-! the tables of java/lang/Integer are what its class file says -/
theorem vc_J6_bitCount_0f7a4 : xl_J6_bitCount_0f7a4.all (xm_ckb vwCl RJ6 cJ6_bitCount_0f7a4 false xk_J6 xt []) = true := by decide +kernel
