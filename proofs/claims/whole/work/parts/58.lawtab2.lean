set_option maxRecDepth 100000 in
theorem lw_tok6 : lw_tokR 394 40 = true := by decide +kernel
set_option maxRecDepth 100000 in
theorem lw_tok7 : lw_tokR 434 42 = true := by decide +kernel
set_option maxRecDepth 100000 in
theorem lw_tok8 : lw_tokR 476 38 = true := by decide +kernel
set_option maxRecDepth 100000 in
theorem lw_tok9 : lw_tokR 514 40 = true := by decide +kernel
set_option maxRecDepth 100000 in
theorem lw_tok10 : lw_tokR 554 36 = true := by decide +kernel
set_option maxRecDepth 100000 in
theorem lw_tok11 : lw_tokR 590 36 = true := by decide +kernel
