/-! the tables of RootHouse are what its class file says -/
theorem vc_X11_run : xl_X11_run.all (xm_ckb vwCl RX11 cX11_run false xk_X11 xt [12, 58]) = true := by decide +kernel
theorem vc_X11_same : xl_X11_same.all (xm_ckb vwCl RX11 cX11_same false xk_X11 xt []) = true := by decide +kernel
theorem vc_X11_spider : xl_X11_spider.all (xm_ckb vwCl RX11 cX11_spider false xk_X11 xt []) = true := by decide +kernel
theorem vc_X11_spoil : xl_X11_spoil.all (xm_ckb vwCl RX11 cX11_spoil false xk_X11 xt []) = true := by decide +kernel
theorem vc_X11_state : xl_X11_state.all (xm_ckb vwCl RX11 cX11_state false xk_X11 xt []) = true := by decide +kernel
theorem vc_X11_sum : xl_X11_sum.all (xm_ckb vwCl RX11 cX11_sum false xk_X11 xt []) = true := by decide +kernel
theorem vc_X11_table : xl_X11_table.all (xm_ckb vwCl RX11 cX11_table false xk_X11 xt []) = true := by decide +kernel
theorem vc_X11_tensor : xl_X11_tensor.all (xm_ckb vwCl RX11 cX11_tensor false xk_X11 xt []) = true := by decide +kernel
theorem vc_X11_term : xl_X11_term.all (xm_ckb vwCl RX11 cX11_term false xk_X11 xt []) = true := by decide +kernel
theorem vc_X11_told : xl_X11_told.all (xm_ckb vwCl RX11 cX11_told false xk_X11 xt [26]) = true := by decide +kernel
theorem vc_X11_total : xl_X11_total.all (xm_ckb vwCl RX11 cX11_total false xk_X11 xt []) = true := by decide +kernel
theorem vc_X11_turn : xl_X11_turn.all (xm_ckb vwCl RX11 cX11_turn false xk_X11 xt []) = true := by decide +kernel
theorem vc_X11_type : xl_X11_type.all (xm_ckb vwCl RX11 cX11_type false xk_X11 xt []) = true := by decide +kernel
theorem vc_X11_weight : xl_X11_weight.all (xm_ckb vwCl RX11 cX11_weight false xk_X11 xt [39]) = true := by decide +kernel
theorem vc_X11_written : xl_X11_written.all (xm_ckb vwCl RX11 cX11_written false xk_X11 xt []) = true := by decide +kernel
