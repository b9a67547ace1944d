/-! the tables of jdk/internal/util/Preconditions are what its class file says -/
theorem vc_J3_checkFromToIndex_8c36e : xl_J3_checkFromToIndex_8c36e.all (xm_ckb vwCl RJ3 cJ3_checkFromToIndex_8c36e false xk_J3 xt []) = true := by decide +kernel
theorem vc_J3_checkIndex_8e157 : xl_J3_checkIndex_8e157.all (xm_ckb vwCl RJ3 cJ3_checkIndex_8e157 false xk_J3 xt []) = true := by decide +kernel
