set_option maxRecDepth 100000 in
theorem lw_tok12 : lw_tokR 626 38 = true := by decide +kernel
set_option maxRecDepth 100000 in
theorem lw_tok13 : lw_tokR 664 40 = true := by decide +kernel
set_option maxRecDepth 100000 in
theorem lw_tok14 : lw_tokR 704 36 = true := by decide +kernel
set_option maxRecDepth 100000 in
theorem lw_tok15 : lw_tokR 740 32 = true := by decide +kernel
set_option maxRecDepth 100000 in
theorem lw_tok16 : lw_tokR 772 38 = true := by decide +kernel
set_option maxRecDepth 100000 in
theorem lw_tok17 : lw_tokR 810 38 = true := by decide +kernel
