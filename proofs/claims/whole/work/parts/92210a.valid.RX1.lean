/-! the tables of RootHouse$Blur are what its class file says -/
theorem vc_X1_comes : xl_X1_comes.all (xm_ckb vwCl RX1 cX1_comes false xk_X1 xt []) = true := by decide +kernel
theorem vc_X1_greatestPower : xl_X1_greatestPower.all (xm_ckb vwCl RX1 cX1_greatestPower false xk_X1 xt []) = true := by decide +kernel
theorem vc_X1_init : xl_X1_init.all (xm_ckb vwCl RX1 cX1_init true xk_X1 xt []) = true := by decide +kernel
theorem vc_X1_perform : xl_X1_perform.all (xm_ckb vwCl RX1 cX1_perform false xk_X1 xt []) = true := by decide +kernel
theorem vc_X1_pourDown : xl_X1_pourDown.all (xm_ckb vwCl RX1 cX1_pourDown false xk_X1 xt []) = true := by decide +kernel
theorem vc_X1_purityPart : xl_X1_purityPart.all (xm_ckb vwCl RX1 cX1_purityPart false xk_X1 xt []) = true := by decide +kernel
theorem vc_X1_spoilPair : xl_X1_spoilPair.all (xm_ckb vwCl RX1 cX1_spoilPair false xk_X1 xt []) = true := by decide +kernel
theorem vc_X1_spoilWire : xl_X1_spoilWire.all (xm_ckb vwCl RX1 cX1_spoilWire false xk_X1 xt []) = true := by decide +kernel
theorem vc_X1_start : xl_X1_start.all (xm_ckb vwCl RX1 cX1_start false xk_X1 xt []) = true := by decide +kernel
theorem vc_X1_stays : xl_X1_stays.all (xm_ckb vwCl RX1 cX1_stays false xk_X1 xt []) = true := by decide +kernel
