/-! the table of yL_law, a piece -/
theorem vc_L_law_p11a : (List.take 50 xl_L_law_p11).all (xm_ckb vwCl RL cL_law false xk_L xt []) = true := by decide +kernel
theorem vc_L_law_p11b : (List.drop 50 xl_L_law_p11).all (xm_ckb vwCl RL cL_law false xk_L xt []) = true := by decide +kernel
theorem vc_L_law_p11 : xl_L_law_p11.all (xm_ckb vwCl RL cL_law false xk_L xt []) = true := by
  rw [← List.take_append_drop 50 xl_L_law_p11, List.all_append, vc_L_law_p11a, vc_L_law_p11b]; rfl
