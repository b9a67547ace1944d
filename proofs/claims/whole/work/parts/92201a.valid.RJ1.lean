/-! the tables of java/lang/StringLatin1 are what its class file says -/
theorem vc_J1_canEncode_9a6ad : xl_J1_canEncode_9a6ad.all (xm_ckb vwCl RJ1 cJ1_canEncode_9a6ad false xk_J1 xt []) = true := by decide +kernel
theorem vc_J1_charAt_3b067 : xl_J1_charAt_3b067.all (xm_ckb vwCl RJ1 cJ1_charAt_3b067 false xk_J1 xt []) = true := by decide +kernel
theorem vc_J1_indexOfChar_4cfef : xl_J1_indexOfChar_4cfef.all (xm_ckb vwCl RJ1 cJ1_indexOfChar_4cfef false xk_J1 xt []) = true := by decide +kernel
theorem vc_J1_indexOf_4cfef : xl_J1_indexOf_4cfef.all (xm_ckb vwCl RJ1 cJ1_indexOf_4cfef false xk_J1 xt []) = true := by decide +kernel
