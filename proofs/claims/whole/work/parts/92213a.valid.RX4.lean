/-! the tables of RootHouse$Play are what its class file says -/
theorem vc_X4_addFixing : xl_X4_addFixing.all (xm_ckb vwCl RX4 cX4_addFixing false xk_X4 xt []) = true := by decide +kernel
theorem vc_X4_areAlike : xl_X4_areAlike.all (xm_ckb vwCl RX4 cX4_areAlike false xk_X4 xt []) = true := by decide +kernel
theorem vc_X4_compareMoved : xl_X4_compareMoved.all (xm_ckb vwCl RX4 cX4_compareMoved false xk_X4 xt []) = true := by decide +kernel
theorem vc_X4_countNodes : xl_X4_countNodes.all (xm_ckb vwCl RX4 cX4_countNodes false xk_X4 xt []) = true := by decide +kernel
theorem vc_X4_expectedPart : xl_X4_expectedPart.all (xm_ckb vwCl RX4 cX4_expectedPart false xk_X4 xt []) = true := by decide +kernel
theorem vc_X4_findGroup : xl_X4_findGroup.all (xm_ckb vwCl RX4 cX4_findGroup false xk_X4 xt []) = true := by decide +kernel
theorem vc_X4_hasWires : xl_X4_hasWires.all (xm_ckb vwCl RX4 cX4_hasWires false xk_X4 xt []) = true := by decide +kernel
theorem vc_X4_init : xl_X4_init.all (xm_ckb vwCl RX4 cX4_init true xk_X4 xt []) = true := by decide +kernel
theorem vc_X4_isNewNode : xl_X4_isNewNode.all (xm_ckb vwCl RX4 cX4_isNewNode false xk_X4 xt []) = true := by decide +kernel
theorem vc_X4_mixedPart : xl_X4_mixedPart.all (xm_ckb vwCl RX4 cX4_mixedPart false xk_X4 xt []) = true := by decide +kernel
theorem vc_X4_observe : xl_X4_observe.all (xm_ckb vwCl RX4 cX4_observe false xk_X4 xt []) = true := by decide +kernel
theorem vc_X4_quartersOf : xl_X4_quartersOf.all (xm_ckb vwCl RX4 cX4_quartersOf false xk_X4 xt []) = true := by decide +kernel
theorem vc_X4_restOf : xl_X4_restOf.all (xm_ckb vwCl RX4 cX4_restOf false xk_X4 xt []) = true := by decide +kernel
theorem vc_X4_signOf : xl_X4_signOf.all (xm_ckb vwCl RX4 cX4_signOf false xk_X4 xt []) = true := by decide +kernel
theorem vc_X4_start : xl_X4_start.all (xm_ckb vwCl RX4 cX4_start false xk_X4 xt []) = true := by decide +kernel
theorem vc_X4_step : xl_X4_step.all (xm_ckb vwCl RX4 cX4_step false xk_X4 xt []) = true := by decide +kernel
theorem vc_X4_straighten : xl_X4_straighten.all (xm_ckb vwCl RX4 cX4_straighten false xk_X4 xt []) = true := by decide +kernel
