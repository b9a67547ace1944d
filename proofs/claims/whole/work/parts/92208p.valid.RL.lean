/-! the table of yL_law, a piece -/
theorem vc_L_law_p14a : (List.take 50 xl_L_law_p14).all (xm_ckb vwCl RL cL_law false xk_L xt []) = true := by decide +kernel
theorem vc_L_law_p14b : (List.drop 50 xl_L_law_p14).all (xm_ckb vwCl RL cL_law false xk_L xt []) = true := by decide +kernel
theorem vc_L_law_p14 : xl_L_law_p14.all (xm_ckb vwCl RL cL_law false xk_L xt []) = true := by
  rw [← List.take_append_drop 50 xl_L_law_p14, List.all_append, vc_L_law_p14a, vc_L_law_p14b]; rfl
