set_option maxRecDepth 100000 in
theorem lw_tok0 : lw_tokR 18 182 = true := by decide +kernel
set_option maxRecDepth 100000 in
theorem lw_tok1 : lw_tokR 200 48 = true := by decide +kernel
set_option maxRecDepth 100000 in
theorem lw_tok2 : lw_tokR 248 36 = true := by decide +kernel
set_option maxRecDepth 100000 in
theorem lw_tok3 : lw_tokR 284 36 = true := by decide +kernel
set_option maxRecDepth 100000 in
theorem lw_tok4 : lw_tokR 320 36 = true := by decide +kernel
set_option maxRecDepth 100000 in
theorem lw_tok5 : lw_tokR 356 38 = true := by decide +kernel
