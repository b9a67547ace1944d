/-! the tables of RootHouse$Signs are what its class file says -/
theorem vc_X8_exchanged : xl_X8_exchanged.all (xm_ckb vwCl RX8 cX8_exchanged false xk_X8 xt []) = true := by decide +kernel
theorem vc_X8_init : xl_X8_init.all (xm_ckb vwCl RX8 cX8_init true xk_X8 xt []) = true := by decide +kernel
theorem vc_X8_multiply : xl_X8_multiply.all (xm_ckb vwCl RX8 cX8_multiply false xk_X8 xt []) = true := by decide +kernel
theorem vc_X8_observe : xl_X8_observe.all (xm_ckb vwCl RX8 cX8_observe false xk_X8 xt []) = true := by decide +kernel
theorem vc_X8_quartersOfProduct : xl_X8_quartersOfProduct.all (xm_ckb vwCl RX8 cX8_quartersOfProduct false xk_X8 xt []) = true := by decide +kernel
theorem vc_X8_setRow : xl_X8_setRow.all (xm_ckb vwCl RX8 cX8_setRow false xk_X8 xt []) = true := by decide +kernel
theorem vc_X8_setZero : xl_X8_setZero.all (xm_ckb vwCl RX8 cX8_setZero false xk_X8 xt []) = true := by decide +kernel
theorem vc_X8_signOfZ : xl_X8_signOfZ.all (xm_ckb vwCl RX8 cX8_signOfZ false xk_X8 xt []) = true := by decide +kernel
theorem vc_X8_straighten : xl_X8_straighten.all (xm_ckb vwCl RX8 cX8_straighten false xk_X8 xt []) = true := by decide +kernel
theorem vc_X8_swapRows : xl_X8_swapRows.all (xm_ckb vwCl RX8 cX8_swapRows false xk_X8 xt []) = true := by decide +kernel
theorem vc_X8_turnBy : xl_X8_turnBy.all (xm_ckb vwCl RX8 cX8_turnBy false xk_X8 xt []) = true := by decide +kernel
theorem vc_X8_turnByControlled : xl_X8_turnByControlled.all (xm_ckb vwCl RX8 cX8_turnByControlled false xk_X8 xt []) = true := by decide +kernel
theorem vc_X8_turnByH : xl_X8_turnByH.all (xm_ckb vwCl RX8 cX8_turnByH false xk_X8 xt []) = true := by decide +kernel
theorem vc_X8_turnByOp : xl_X8_turnByOp.all (xm_ckb vwCl RX8 cX8_turnByOp false xk_X8 xt []) = true := by decide +kernel
theorem vc_X8_turnByS : xl_X8_turnByS.all (xm_ckb vwCl RX8 cX8_turnByS false xk_X8 xt []) = true := by decide +kernel
