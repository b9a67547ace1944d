/-! the table of yL_law, a piece -/
theorem vc_L_law_p15a : (List.take 50 xl_L_law_p15).all (xm_ckb vwCl RL cL_law false xk_L xt []) = true := by decide +kernel
