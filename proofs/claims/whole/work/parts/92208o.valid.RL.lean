/-! the table of yL_law, a piece -/
theorem vc_L_law_p13a : (List.take 50 xl_L_law_p13).all (xm_ckb vwCl RL cL_law false xk_L xt []) = true := by decide +kernel
theorem vc_L_law_p13b : (List.drop 50 xl_L_law_p13).all (xm_ckb vwCl RL cL_law false xk_L xt []) = true := by decide +kernel
theorem vc_L_law_p13 : xl_L_law_p13.all (xm_ckb vwCl RL cL_law false xk_L xt []) = true := by
  rw [← List.take_append_drop 50 xl_L_law_p13, List.all_append, vc_L_law_p13a, vc_L_law_p13b]; rfl
