/-! the tables of java/util/Arrays are what its class file says -/
theorem vc_J7_fill_53178 : xl_J7_fill_53178.all (xm_ckb vwCl RJ7 cJ7_fill_53178 false xk_J7 xt []) = true := by decide +kernel
theorem vc_J7_fill_d0a16 : xl_J7_fill_d0a16.all (xm_ckb vwCl RJ7 cJ7_fill_d0a16 false xk_J7 xt []) = true := by decide +kernel
