/-! the tables of RootHouseLaw are what its class file says -/
theorem vc_L_amplitude : xl_L_amplitude.all (xm_ckb vwCl RL cL_amplitude false xk_L xt []) = true := by decide +kernel
theorem vc_L_circuit : xl_L_circuit.all (xm_ckb vwCl RL cL_circuit false xk_L xt []) = true := by decide +kernel
theorem vc_L_code : xl_L_code.all (xm_ckb vwCl RL cL_code false xk_L xt []) = true := by decide +kernel
theorem vc_L_entry : xl_L_entry.all (xm_ckb vwCl RL cL_entry false xk_L xt []) = true := by decide +kernel
theorem vc_L_expected : xl_L_expected.all (xm_ckb vwCl RL cL_expected false xk_L xt []) = true := by decide +kernel
theorem vc_L_meaning : xl_L_meaning.all (xm_ckb vwCl RL cL_meaning false xk_L xt []) = true := by decide +kernel
theorem vc_L_mixed : xl_L_mixed.all (xm_ckb vwCl RL cL_mixed false xk_L xt []) = true := by decide +kernel
theorem vc_L_purity : xl_L_purity.all (xm_ckb vwCl RL cL_purity false xk_L xt []) = true := by decide +kernel
theorem vc_L_run : xl_L_run.all (xm_ckb vwCl RL cL_run false xk_L xt []) = true := by decide +kernel
theorem vc_L_told : xl_L_told.all (xm_ckb vwCl RL cL_told false xk_L xt []) = true := by decide +kernel
theorem vc_L_weight : xl_L_weight.all (xm_ckb vwCl RL cL_weight false xk_L xt []) = true := by decide +kernel
