/-! the tables of RootHouseModel are what its class file says -/
theorem vc_X12_work : xl_X12_work.all (xm_ckb vwCl RX12 cX12_work false xk_X12 xt []) = true := by decide +kernel
theorem vc_X12_write : xl_X12_write.all (xm_ckb vwCl RX12 cX12_write false xk_X12 xt []) = true := by decide +kernel
theorem vc_X12_writeOp : xl_X12_writeOp.all (xm_ckb vwCl RX12 cX12_writeOp false xk_X12 xt []) = true := by decide +kernel
theorem vc_X12_written : xl_X12_written.all (xm_ckb vwCl RX12 cX12_written false xk_X12 xt []) = true := by decide +kernel
