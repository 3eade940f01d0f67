/-! mchk test -/
set_option maxRecDepth 100000 in
theorem mkt_208 : ((List.range 8).all fun i => mchk (208 + i)) = true := by decide +kernel
set_option maxRecDepth 100000 in
theorem mkt_216 : ((List.range 8).all fun i => mchk (216 + i)) = true := by decide +kernel
set_option maxRecDepth 100000 in
theorem mkt_224 : ((List.range 8).all fun i => mchk (224 + i)) = true := by decide +kernel
set_option maxRecDepth 100000 in
theorem mkt_232 : ((List.range 8).all fun i => mchk (232 + i)) = true := by decide +kernel
set_option maxRecDepth 100000 in
theorem mkt_240 : ((List.range 8).all fun i => mchk (240 + i)) = true := by decide +kernel
set_option maxRecDepth 100000 in
theorem mkt_248 : ((List.range 8).all fun i => mchk (248 + i)) = true := by decide +kernel
set_option maxRecDepth 100000 in
theorem mkt_256 : ((List.range 8).all fun i => mchk (256 + i)) = true := by decide +kernel
set_option maxRecDepth 100000 in
theorem mkt_264 : ((List.range 8).all fun i => mchk (264 + i)) = true := by decide +kernel
set_option maxRecDepth 100000 in
theorem mkt_272 : ((List.range 8).all fun i => mchk (272 + i)) = true := by decide +kernel
set_option maxRecDepth 100000 in
theorem mkt_280 : ((List.range 8).all fun i => mchk (280 + i)) = true := by decide +kernel
