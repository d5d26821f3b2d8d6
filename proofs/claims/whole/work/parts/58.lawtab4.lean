set_option maxRecDepth 100000 in
theorem lw_tok18 : lw_tokR 848 38 = true := by decide +kernel
set_option maxRecDepth 100000 in
theorem lw_tok19 : lw_tokR 886 36 = true := by decide +kernel
set_option maxRecDepth 100000 in
theorem lw_tok20 : lw_tokR 922 36 = true := by decide +kernel
set_option maxRecDepth 100000 in
theorem lw_tok21 : lw_tokR 958 46 = true := by decide +kernel
set_option maxRecDepth 100000 in
theorem lw_tok22 : lw_tokR 1004 40 = true := by decide +kernel
set_option maxRecDepth 100000 in
theorem lw_tok23 : lw_tokR 1044 42 = true := by decide +kernel
