/-! THE LAW: what is checked of its rows, 2 -/
set_option maxHeartbeats 4000000 in
set_option maxRecDepth 100000 in
theorem law_ck4 : am_ckF cL_law 48 (am_drp 192 cL_law) = true := by decide +kernel
set_option maxHeartbeats 4000000 in
set_option maxRecDepth 100000 in
theorem law_ck5 : am_ckF cL_law 48 (am_drp 240 cL_law) = true := by decide +kernel
