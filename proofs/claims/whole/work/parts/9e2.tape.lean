-- the tapes at the start
set_option maxRecDepth 100000 in
theorem v0_t : (List.range 1600).all (fun k => decide (rI s0 3 k = nI 0)) = true := by decide +kernel
set_option maxRecDepth 100000 in
theorem v0_u : (List.range 1600).all (fun k => decide (rI s0 163 k = nI 0)) = true := by decide +kernel
