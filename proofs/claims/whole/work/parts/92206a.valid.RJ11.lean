/-! the tables of java/lang/Character are what its class file says -/
theorem vc_J11_highSurrogate_5068e : xl_J11_highSurrogate_5068e.all (xm_ckb vwCl RJ11 cJ11_highSurrogate_5068e false xk_J11 xt []) = true := by decide +kernel
theorem vc_J11_isValidCodePoint_9a6ad : xl_J11_isValidCodePoint_9a6ad.all (xm_ckb vwCl RJ11 cJ11_isValidCodePoint_9a6ad false xk_J11 xt []) = true := by decide +kernel
theorem vc_J11_lowSurrogate_5068e : xl_J11_lowSurrogate_5068e.all (xm_ckb vwCl RJ11 cJ11_lowSurrogate_5068e false xk_J11 xt []) = true := by decide +kernel
