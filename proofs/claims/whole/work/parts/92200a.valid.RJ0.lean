/-! the tables of java/lang/String are what its class file says -/
theorem vc_J0_charAt_5068e : xl_J0_charAt_5068e.all (xm_ckb vwCl RJ0 cJ0_charAt_5068e false xk_J0 xt []) = true := by decide +kernel
theorem vc_J0_checkBoundsBeginEnd_23922 : xl_J0_checkBoundsBeginEnd_23922.all (xm_ckb vwCl RJ0 cJ0_checkBoundsBeginEnd_23922 false xk_J0 xt []) = true := by decide +kernel
theorem vc_J0_checkIndex_df160 : xl_J0_checkIndex_df160.all (xm_ckb vwCl RJ0 cJ0_checkIndex_df160 false xk_J0 xt []) = true := by decide +kernel
theorem vc_J0_coder_7d493 : xl_J0_coder_7d493.all (xm_ckb vwCl RJ0 cJ0_coder_7d493 false xk_J0 xt []) = true := by decide +kernel
theorem vc_J0_indexOf_0f7a4 : xl_J0_indexOf_0f7a4.all (xm_ckb vwCl RJ0 cJ0_indexOf_0f7a4 false xk_J0 xt []) = true := by decide +kernel
theorem vc_J0_indexOf_7cf53 : xl_J0_indexOf_7cf53.all (xm_ckb vwCl RJ0 cJ0_indexOf_7cf53 false xk_J0 xt []) = true := by decide +kernel
theorem vc_J0_isLatin1_aae02 : xl_J0_isLatin1_aae02.all (xm_ckb vwCl RJ0 cJ0_isLatin1_aae02 false xk_J0 xt []) = true := by decide +kernel
theorem vc_J0_length_8abf5 : xl_J0_length_8abf5.all (xm_ckb vwCl RJ0 cJ0_length_8abf5 false xk_J0 xt []) = true := by decide +kernel
