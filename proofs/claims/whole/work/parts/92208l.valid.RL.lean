/-! the table of yL_law, a piece -/
theorem vc_L_law_p10a : (List.take 50 xl_L_law_p10).all (xm_ckb vwCl RL cL_law false xk_L xt []) = true := by decide +kernel
theorem vc_L_law_p10b : (List.drop 50 xl_L_law_p10).all (xm_ckb vwCl RL cL_law false xk_L xt []) = true := by decide +kernel
theorem vc_L_law_p10 : xl_L_law_p10.all (xm_ckb vwCl RL cL_law false xk_L xt []) = true := by
  rw [← List.take_append_drop 50 xl_L_law_p10, List.all_append, vc_L_law_p10a, vc_L_law_p10b]; rfl
