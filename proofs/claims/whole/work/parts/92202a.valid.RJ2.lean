/-! the tables of java/lang/StringUTF16 are what its class file says -/
theorem vc_J2_charAt_3b067 : xl_J2_charAt_3b067.all (xm_ckb vwCl RJ2 cJ2_charAt_3b067 false xk_J2 xt []) = true := by decide +kernel
theorem vc_J2_checkBoundsBeginEnd_d044e : xl_J2_checkBoundsBeginEnd_d044e.all (xm_ckb vwCl RJ2 cJ2_checkBoundsBeginEnd_d044e false xk_J2 xt []) = true := by decide +kernel
theorem vc_J2_checkIndex_2214a : xl_J2_checkIndex_2214a.all (xm_ckb vwCl RJ2 cJ2_checkIndex_2214a false xk_J2 xt []) = true := by decide +kernel
theorem vc_J2_getChar_3b067 : xl_J2_getChar_3b067.all (xm_ckb vwCl RJ2 cJ2_getChar_3b067 false xk_J2 xt []) = true := by decide +kernel
theorem vc_J2_indexOfCharUnsafe_4cfef : xl_J2_indexOfCharUnsafe_4cfef.all (xm_ckb vwCl RJ2 cJ2_indexOfCharUnsafe_4cfef false xk_J2 xt []) = true := by decide +kernel
theorem vc_J2_indexOfChar_4cfef : xl_J2_indexOfChar_4cfef.all (xm_ckb vwCl RJ2 cJ2_indexOfChar_4cfef false xk_J2 xt []) = true := by decide +kernel
theorem vc_J2_indexOfSupplementary_4cfef : xl_J2_indexOfSupplementary_4cfef.all (xm_ckb vwCl RJ2 cJ2_indexOfSupplementary_4cfef false xk_J2 xt []) = true := by decide +kernel
theorem vc_J2_indexOf_4cfef : xl_J2_indexOf_4cfef.all (xm_ckb vwCl RJ2 cJ2_indexOf_4cfef false xk_J2 xt []) = true := by decide +kernel
theorem vc_J2_length_9d52b : xl_J2_length_9d52b.all (xm_ckb vwCl RJ2 cJ2_length_9d52b false xk_J2 xt []) = true := by decide +kernel
