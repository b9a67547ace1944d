/-! the table of yL_law, a piece -/
theorem vc_L_law_p5 : xl_L_law_p5.all (xm_ckb vwCl RL cL_law false xk_L xt []) = true := by decide +kernel
