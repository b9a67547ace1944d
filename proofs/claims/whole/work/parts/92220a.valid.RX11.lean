/-! the tables of RootHouse are what its class file says -/
theorem vc_X11_amplitude : xl_X11_amplitude.all (xm_ckb vwCl RX11 cX11_amplitude false xk_X11 xt [38]) = true := by decide +kernel
theorem vc_X11_begin : xl_X11_begin.all (xm_ckb vwCl RX11 cX11_begin false xk_X11 xt []) = true := by decide +kernel
theorem vc_X11_canCarry : xl_X11_canCarry.all (xm_ckb vwCl RX11 cX11_canCarry false xk_X11 xt []) = true := by decide +kernel
theorem vc_X11_carryThrough : xl_X11_carryThrough.all (xm_ckb vwCl RX11 cX11_carryThrough false xk_X11 xt []) = true := by decide +kernel
theorem vc_X11_circuit : xl_X11_circuit.all (xm_ckb vwCl RX11 cX11_circuit false xk_X11 xt [22, 78]) = true := by decide +kernel
theorem vc_X11_clear : xl_X11_clear.all (xm_ckb vwCl RX11 cX11_clear false xk_X11 xt []) = true := by decide +kernel
theorem vc_X11_code : xl_X11_code.all (xm_ckb vwCl RX11 cX11_code false xk_X11 xt [51]) = true := by decide +kernel
theorem vc_X11_codes : xl_X11_codes.all (xm_ckb vwCl RX11 cX11_codes false xk_X11 xt []) = true := by decide +kernel
theorem vc_X11_commutes : xl_X11_commutes.all (xm_ckb vwCl RX11 cX11_commutes false xk_X11 xt []) = true := by decide +kernel
theorem vc_X11_cost : xl_X11_cost.all (xm_ckb vwCl RX11 cX11_cost false xk_X11 xt []) = true := by decide +kernel
theorem vc_X11_countWon : xl_X11_countWon.all (xm_ckb vwCl RX11 cX11_countWon false xk_X11 xt []) = true := by decide +kernel
theorem vc_X11_density : xl_X11_density.all (xm_ckb vwCl RX11 cX11_density false xk_X11 xt []) = true := by decide +kernel
theorem vc_X11_derive : xl_X11_derive.all (xm_ckb vwCl RX11 cX11_derive false xk_X11 xt []) = true := by decide +kernel
theorem vc_X11_diagram : xl_X11_diagram.all (xm_ckb vwCl RX11 cX11_diagram false xk_X11 xt []) = true := by decide +kernel
theorem vc_X11_draftDerived : xl_X11_draftDerived.all (xm_ckb vwCl RX11 cX11_draftDerived false xk_X11 xt []) = true := by decide +kernel
theorem vc_X11_entry : xl_X11_entry.all (xm_ckb vwCl RX11 cX11_entry false xk_X11 xt [50]) = true := by decide +kernel
theorem vc_X11_equal : xl_X11_equal.all (xm_ckb vwCl RX11 cX11_equal false xk_X11 xt []) = true := by decide +kernel
theorem vc_X11_expected : xl_X11_expected.all (xm_ckb vwCl RX11 cX11_expected false xk_X11 xt [42]) = true := by decide +kernel
theorem vc_X11_fault : xl_X11_fault.all (xm_ckb vwCl RX11 cX11_fault false xk_X11 xt []) = true := by decide +kernel
theorem vc_X11_faulty : xl_X11_faulty.all (xm_ckb vwCl RX11 cX11_faulty false xk_X11 xt []) = true := by decide +kernel
theorem vc_X11_fillColumn : xl_X11_fillColumn.all (xm_ckb vwCl RX11 cX11_fillColumn false xk_X11 xt []) = true := by decide +kernel
theorem vc_X11_form : xl_X11_form.all (xm_ckb vwCl RX11 cX11_form false xk_X11 xt []) = true := by decide +kernel
theorem vc_X11_game : xl_X11_game.all (xm_ckb vwCl RX11 cX11_game false xk_X11 xt []) = true := by decide +kernel
theorem vc_X11_gate : xl_X11_gate.all (xm_ckb vwCl RX11 cX11_gate false xk_X11 xt []) = true := by decide +kernel
theorem vc_X11_group : xl_X11_group.all (xm_ckb vwCl RX11 cX11_group false xk_X11 xt []) = true := by decide +kernel
theorem vc_X11_init : xl_X11_init.all (xm_ckb vwCl RX11 cX11_init true xk_X11 xt []) = true := by decide +kernel
theorem vc_X11_kin : xl_X11_kin.all (xm_ckb vwCl RX11 cX11_kin false xk_X11 xt []) = true := by decide +kernel
theorem vc_X11_ladder : xl_X11_ladder.all (xm_ckb vwCl RX11 cX11_ladder false xk_X11 xt []) = true := by decide +kernel
theorem vc_X11_least : xl_X11_least.all (xm_ckb vwCl RX11 cX11_least false xk_X11 xt []) = true := by decide +kernel
theorem vc_X11_letter : xl_X11_letter.all (xm_ckb vwCl RX11 cX11_letter false xk_X11 xt []) = true := by decide +kernel
theorem vc_X11_link : xl_X11_link.all (xm_ckb vwCl RX11 cX11_link false xk_X11 xt []) = true := by decide +kernel
theorem vc_X11_look : xl_X11_look.all (xm_ckb vwCl RX11 cX11_look false xk_X11 xt []) = true := by decide +kernel
theorem vc_X11_meaning : xl_X11_meaning.all (xm_ckb vwCl RX11 cX11_meaning false xk_X11 xt [50, 73]) = true := by decide +kernel
theorem vc_X11_measure : xl_X11_measure.all (xm_ckb vwCl RX11 cX11_measure false xk_X11 xt []) = true := by decide +kernel
theorem vc_X11_mix : xl_X11_mix.all (xm_ckb vwCl RX11 cX11_mix false xk_X11 xt []) = true := by decide +kernel
theorem vc_X11_mixed : xl_X11_mixed.all (xm_ckb vwCl RX11 cX11_mixed false xk_X11 xt [37, 66]) = true := by decide +kernel
theorem vc_X11_nodes : xl_X11_nodes.all (xm_ckb vwCl RX11 cX11_nodes false xk_X11 xt []) = true := by decide +kernel
theorem vc_X11_op : xl_X11_op.all (xm_ckb vwCl RX11 cX11_op false xk_X11 xt []) = true := by decide +kernel
theorem vc_X11_pauli : xl_X11_pauli.all (xm_ckb vwCl RX11 cX11_pauli false xk_X11 xt []) = true := by decide +kernel
theorem vc_X11_played : xl_X11_played.all (xm_ckb vwCl RX11 cX11_played false xk_X11 xt []) = true := by decide +kernel
theorem vc_X11_purity : xl_X11_purity.all (xm_ckb vwCl RX11 cX11_purity false xk_X11 xt [19, 42]) = true := by decide +kernel
theorem vc_X11_reduce : xl_X11_reduce.all (xm_ckb vwCl RX11 cX11_reduce false xk_X11 xt []) = true := by decide +kernel
theorem vc_X11_rewrite : xl_X11_rewrite.all (xm_ckb vwCl RX11 cX11_rewrite false xk_X11 xt []) = true := by decide +kernel
theorem vc_X11_route : xl_X11_route.all (xm_ckb vwCl RX11 cX11_route false xk_X11 xt []) = true := by decide +kernel
theorem vc_X11_row : xl_X11_row.all (xm_ckb vwCl RX11 cX11_row false xk_X11 xt []) = true := by decide +kernel
