/-! the table of yX12_init, a piece -/
theorem vc_X12_init_q3 : ((xl_X12_init.drop 300).take 100).all (xm_ckb vwCl RX12 cX12_init true xk_X12 xt []) = true := by decide +kernel
