/-! the table of yL_law, a piece -/
theorem vc_L_law_p16b : (List.drop 50 xl_L_law_p16).all (xm_ckb vwCl RL cL_law false xk_L xt []) = true := by decide +kernel
theorem vc_L_law_p16 : xl_L_law_p16.all (xm_ckb vwCl RL cL_law false xk_L xt []) = true := by
  rw [← List.take_append_drop 50 xl_L_law_p16, List.all_append, vc_L_law_p16a, vc_L_law_p16b]; rfl
