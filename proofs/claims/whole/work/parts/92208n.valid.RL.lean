/-! the table of yL_law, a piece -/
theorem vc_L_law_p12a : (List.take 50 xl_L_law_p12).all (xm_ckb vwCl RL cL_law false xk_L xt []) = true := by decide +kernel
theorem vc_L_law_p12b : (List.drop 50 xl_L_law_p12).all (xm_ckb vwCl RL cL_law false xk_L xt []) = true := by decide +kernel
theorem vc_L_law_p12 : xl_L_law_p12.all (xm_ckb vwCl RL cL_law false xk_L xt []) = true := by
  rw [← List.take_append_drop 50 xl_L_law_p12, List.all_append, vc_L_law_p12a, vc_L_law_p12b]; rfl
